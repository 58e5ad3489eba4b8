/-! THE LAW: a case of its switch each (written by gen6.py) -/
section LOPS
variable {p : Program} {l : Launch} {e : Env} {s : State} {m : MethodId} {args : Array Value} {below : List Frame} {meth : Method} {c : Code} {H H0 : Heap} {locs : List Loc} {cells slots : Nat} {Q : State → Prop}
variable {pc : Nat} {rt : Option FieldType} {ls : Array Slot} {rest : List Value} {D : xD} {b L N i : Nat} {xs : Nat → Int32}
theorem lc_fits (C0 : xC D RL cL_law 7 rt p s m args meth c) (hB : lB b L xs s N) (hW : lWd D N s H locs) (hl : lv_has ls 7 (lv5 b N (i32 (i : Nat)))) (hi : i + 6 ≤ L) (hL : L ≤ 3072) (hf : cells ≤ room_1.cells ∧ slots ≤ room_1.slots) (kk : ∀ (H1 : Heap) (locs1 : List Loc), lWd D N s H1 locs1 → W p l e room_1 s m args below meth c H1 locs1 cells slots Q (F0 m 1527 ls [])) : W p l e room_1 s m args below meth c H locs cells slots Q (F0 m 646 ls []) := by
  obtain ⟨h0, cs, I, A, J, g, hH, hg, hc, hr, hR, hE⟩ := hW
  have hx := C0.1
  have hb := C0.2.1
  obtain ⟨v, c1, I1, A1, J1, g1, w1, w2, w3, -, e1, e2⟩ := lo_fits (xs (i + 1)) (xs (i + 2)) h0 hH cs I A J g hg hc hr
  refine lv_aload_n hx hb dL_law_646 rfl (lv_at hl 1 rfl) ?_
  refine l_arg (k := 1) C0 hB hE hl hi hL (by decide) dL_law_647 dL_law_648 dL_law_650 dL_law_651 dL_law_652 ?_
  refine l_arg (k := 2) C0 hB hE hl hi hL (by decide) dL_law_653 dL_law_654 dL_law_656 dL_law_657 dL_law_658 ?_
  refine cl_L_74 C0 hR hE.s e1 ty11 ⟨Nat.le_of_ble_eq_true rfl, Nat.le_of_ble_eq_true rfl⟩ hl.1 (Nat.le_of_ble_eq_true rfl) hf dL_law_659 (fun H1 locs1 hR1 hS1 => ?_)
  have hE1 := hE.S hS1
  refine lv_aload_n hx hb dL_law_662 rfl (lv_at hl 2 rfl) ?_
  refine l_arg (k := 1) C0 hB hE1 hl hi hL (by decide) dL_law_663 dL_law_664 dL_law_666 dL_law_667 dL_law_668 ?_
  refine l_arg (k := 2) C0 hB hE1 hl hi hL (by decide) dL_law_669 dL_law_670 dL_law_672 dL_law_673 dL_law_674 ?_
  refine cl_L_77 C0 hR1 hE1.s e2 ty12 ⟨Nat.le_of_ble_eq_true rfl, Nat.le_of_ble_eq_true rfl⟩ hl.1 (Nat.le_of_ble_eq_true rfl) hf dL_law_675 (fun H2 locs2 hR2 hS2 => ?_)
  exact lv_icmp_eq (tgt := 1527) hx hb dL_law_678 (by decide) (fun _ => kk _ _ ⟨h0, c1, I1, A1, J1, g1, hH, w1, w2, w3, hR2, hE1.S hS2⟩) (fun z => absurd rfl z)
theorem lc_found (C0 : xC D RL cL_law 7 rt p s m args meth c) (hB : lB b L xs s N) (hW : lWd D N s H locs) (hl : lv_has ls 7 (lv5 b N (i32 (i : Nat)))) (hi : i + 6 ≤ L) (hL : L ≤ 3072) (hf : cells ≤ room_1.cells ∧ slots ≤ room_1.slots) (kk : ∀ (H1 : Heap) (locs1 : List Loc), lWd D N s H1 locs1 → W p l e room_1 s m args below meth c H1 locs1 cells slots Q (F0 m 1527 ls [])) : W p l e room_1 s m args below meth c H locs cells slots Q (F0 m 683 ls []) := by
  obtain ⟨h0, cs, I, A, J, g, hH, hg, hc, hr, hR, hE⟩ := hW
  have hx := C0.1
  have hb := C0.2.1
  obtain ⟨v, c1, I1, A1, J1, g1, w1, w2, w3, -, e1, e2⟩ := lo_found (xs (i + 1)) (xs (i + 2)) h0 hH cs I A J g hg hc hr
  refine lv_aload_n hx hb dL_law_683 rfl (lv_at hl 1 rfl) ?_
  refine l_arg (k := 1) C0 hB hE hl hi hL (by decide) dL_law_684 dL_law_685 dL_law_687 dL_law_688 dL_law_689 ?_
  refine l_arg (k := 2) C0 hB hE hl hi hL (by decide) dL_law_690 dL_law_691 dL_law_693 dL_law_694 dL_law_695 ?_
  refine cl_L_78 C0 hR hE.s e1 ty11 ⟨Nat.le_of_ble_eq_true rfl, Nat.le_of_ble_eq_true rfl⟩ hl.1 (Nat.le_of_ble_eq_true rfl) hf dL_law_696 (fun H1 locs1 hR1 hS1 => ?_)
  have hE1 := hE.S hS1
  refine lv_aload_n hx hb dL_law_699 rfl (lv_at hl 2 rfl) ?_
  refine l_arg (k := 1) C0 hB hE1 hl hi hL (by decide) dL_law_700 dL_law_701 dL_law_703 dL_law_704 dL_law_705 ?_
  refine l_arg (k := 2) C0 hB hE1 hl hi hL (by decide) dL_law_706 dL_law_707 dL_law_709 dL_law_710 dL_law_711 ?_
  refine cl_L_81 C0 hR1 hE1.s e2 ty12 ⟨Nat.le_of_ble_eq_true rfl, Nat.le_of_ble_eq_true rfl⟩ hl.1 (Nat.le_of_ble_eq_true rfl) hf dL_law_712 (fun H2 locs2 hR2 hS2 => ?_)
  exact lv_icmp_eq (tgt := 1527) hx hb dL_law_715 (by decide) (fun _ => kk _ _ ⟨h0, c1, I1, A1, J1, g1, hH, w1, w2, w3, hR2, hE1.S hS2⟩) (fun z => absurd rfl z)
theorem lc_finding (C0 : xC D RL cL_law 7 rt p s m args meth c) (hB : lB b L xs s N) (hW : lWd D N s H locs) (hl : lv_has ls 7 (lv5 b N (i32 (i : Nat)))) (hi : i + 6 ≤ L) (hL : L ≤ 3072) (hf : cells ≤ room_1.cells ∧ slots ≤ room_1.slots) (kk : ∀ (H1 : Heap) (locs1 : List Loc), lWd D N s H1 locs1 → W p l e room_1 s m args below meth c H1 locs1 cells slots Q (F0 m 1527 ls [])) : W p l e room_1 s m args below meth c H locs cells slots Q (F0 m 720 ls []) := by
  obtain ⟨h0, cs, I, A, J, g, hH, hg, hc, hr, hR, hE⟩ := hW
  have hx := C0.1
  have hb := C0.2.1
  obtain ⟨v, c1, I1, A1, J1, g1, w1, w2, w3, -, e1, e2⟩ := lo_finding (xs (i + 1)) (xs (i + 2)) h0 hH cs I A J g hg hc hr
  refine lv_aload_n hx hb dL_law_720 rfl (lv_at hl 1 rfl) ?_
  refine l_arg (k := 1) C0 hB hE hl hi hL (by decide) dL_law_721 dL_law_722 dL_law_724 dL_law_725 dL_law_726 ?_
  refine l_arg (k := 2) C0 hB hE hl hi hL (by decide) dL_law_727 dL_law_728 dL_law_730 dL_law_731 dL_law_732 ?_
  refine cl_L_82 C0 hR hE.s e1 ty11 ⟨Nat.le_of_ble_eq_true rfl, Nat.le_of_ble_eq_true rfl⟩ hl.1 (Nat.le_of_ble_eq_true rfl) hf dL_law_733 (fun H1 locs1 hR1 hS1 => ?_)
  have hE1 := hE.S hS1
  refine lv_aload_n hx hb dL_law_736 rfl (lv_at hl 2 rfl) ?_
  refine l_arg (k := 1) C0 hB hE1 hl hi hL (by decide) dL_law_737 dL_law_738 dL_law_740 dL_law_741 dL_law_742 ?_
  refine l_arg (k := 2) C0 hB hE1 hl hi hL (by decide) dL_law_743 dL_law_744 dL_law_746 dL_law_747 dL_law_748 ?_
  refine cl_L_85 C0 hR1 hE1.s e2 ty12 ⟨Nat.le_of_ble_eq_true rfl, Nat.le_of_ble_eq_true rfl⟩ hl.1 (Nat.le_of_ble_eq_true rfl) hf dL_law_749 (fun H2 locs2 hR2 hS2 => ?_)
  exact lv_icmp_eq (tgt := 1527) hx hb dL_law_752 (by decide) (fun _ => kk _ _ ⟨h0, c1, I1, A1, J1, g1, hH, w1, w2, w3, hR2, hE1.S hS2⟩) (fun z => absurd rfl z)
theorem lc_filled (C0 : xC D RL cL_law 7 rt p s m args meth c) (hB : lB b L xs s N) (hW : lWd D N s H locs) (hl : lv_has ls 7 (lv5 b N (i32 (i : Nat)))) (hi : i + 6 ≤ L) (hL : L ≤ 3072) (hf : cells ≤ room_1.cells ∧ slots ≤ room_1.slots) (kk : ∀ (H1 : Heap) (locs1 : List Loc), lWd D N s H1 locs1 → W p l e room_1 s m args below meth c H1 locs1 cells slots Q (F0 m 1527 ls [])) : W p l e room_1 s m args below meth c H locs cells slots Q (F0 m 757 ls []) := by
  obtain ⟨h0, cs, I, A, J, g, hH, hg, hc, hr, hR, hE⟩ := hW
  have hx := C0.1
  have hb := C0.2.1
  obtain ⟨v, c1, I1, A1, J1, g1, w1, w2, w3, -, e1, e2⟩ := lo_filled (xs (i + 1)) (xs (i + 2)) (xs (i + 3)) h0 hH cs I A J g hg hc hr
  refine lv_aload_n hx hb dL_law_757 rfl (lv_at hl 1 rfl) ?_
  refine l_arg (k := 1) C0 hB hE hl hi hL (by decide) dL_law_758 dL_law_759 dL_law_761 dL_law_762 dL_law_763 ?_
  refine l_arg (k := 2) C0 hB hE hl hi hL (by decide) dL_law_764 dL_law_765 dL_law_767 dL_law_768 dL_law_769 ?_
  refine l_arg (k := 3) C0 hB hE hl hi hL (by decide) dL_law_770 dL_law_771 dL_law_773 dL_law_774 dL_law_775 ?_
  refine cl_L_86 C0 hR hE.s e1 ty11 ⟨Nat.le_of_ble_eq_true rfl, Nat.le_of_ble_eq_true rfl⟩ hl.1 (Nat.le_of_ble_eq_true rfl) hf dL_law_776 (fun H1 locs1 hR1 hS1 => ?_)
  have hE1 := hE.S hS1
  refine lv_aload_n hx hb dL_law_779 rfl (lv_at hl 2 rfl) ?_
  refine l_arg (k := 1) C0 hB hE1 hl hi hL (by decide) dL_law_780 dL_law_781 dL_law_783 dL_law_784 dL_law_785 ?_
  refine l_arg (k := 2) C0 hB hE1 hl hi hL (by decide) dL_law_786 dL_law_787 dL_law_789 dL_law_790 dL_law_791 ?_
  refine l_arg (k := 3) C0 hB hE1 hl hi hL (by decide) dL_law_792 dL_law_793 dL_law_795 dL_law_796 dL_law_797 ?_
  refine cl_L_90 C0 hR1 hE1.s e2 ty12 ⟨Nat.le_of_ble_eq_true rfl, Nat.le_of_ble_eq_true rfl⟩ hl.1 (Nat.le_of_ble_eq_true rfl) hf dL_law_798 (fun H2 locs2 hR2 hS2 => ?_)
  exact lv_icmp_eq (tgt := 1527) hx hb dL_law_801 (by decide) (fun _ => kk _ _ ⟨h0, c1, I1, A1, J1, g1, hH, w1, w2, w3, hR2, hE1.S hS2⟩) (fun z => absurd rfl z)
theorem lc_meeting (C0 : xC D RL cL_law 7 rt p s m args meth c) (hB : lB b L xs s N) (hW : lWd D N s H locs) (hl : lv_has ls 7 (lv5 b N (i32 (i : Nat)))) (hi : i + 6 ≤ L) (hL : L ≤ 3072) (hf : cells ≤ room_1.cells ∧ slots ≤ room_1.slots) (kk : ∀ (H1 : Heap) (locs1 : List Loc), lWd D N s H1 locs1 → W p l e room_1 s m args below meth c H1 locs1 cells slots Q (F0 m 1527 ls [])) : W p l e room_1 s m args below meth c H locs cells slots Q (F0 m 806 ls []) := by
  obtain ⟨h0, cs, I, A, J, g, hH, hg, hc, hr, hR, hE⟩ := hW
  have hx := C0.1
  have hb := C0.2.1
  obtain ⟨v, c1, I1, A1, J1, g1, w1, w2, w3, -, e1, e2⟩ := lo_meeting (xs (i + 1)) (xs (i + 2)) h0 hH cs I A J g hg hc hr
  refine lv_aload_n hx hb dL_law_806 rfl (lv_at hl 1 rfl) ?_
  refine l_arg (k := 1) C0 hB hE hl hi hL (by decide) dL_law_807 dL_law_808 dL_law_810 dL_law_811 dL_law_812 ?_
  refine l_arg (k := 2) C0 hB hE hl hi hL (by decide) dL_law_813 dL_law_814 dL_law_816 dL_law_817 dL_law_818 ?_
  refine cl_L_91 C0 hR hE.s e1 ty11 ⟨Nat.le_of_ble_eq_true rfl, Nat.le_of_ble_eq_true rfl⟩ hl.1 (Nat.le_of_ble_eq_true rfl) hf dL_law_819 (fun H1 locs1 hR1 hS1 => ?_)
  have hE1 := hE.S hS1
  refine lv_aload_n hx hb dL_law_822 rfl (lv_at hl 2 rfl) ?_
  refine l_arg (k := 1) C0 hB hE1 hl hi hL (by decide) dL_law_823 dL_law_824 dL_law_826 dL_law_827 dL_law_828 ?_
  refine l_arg (k := 2) C0 hB hE1 hl hi hL (by decide) dL_law_829 dL_law_830 dL_law_832 dL_law_833 dL_law_834 ?_
  refine cl_L_94 C0 hR1 hE1.s e2 ty12 ⟨Nat.le_of_ble_eq_true rfl, Nat.le_of_ble_eq_true rfl⟩ hl.1 (Nat.le_of_ble_eq_true rfl) hf dL_law_835 (fun H2 locs2 hR2 hS2 => ?_)
  exact lv_icmp_eq (tgt := 1527) hx hb dL_law_838 (by decide) (fun _ => kk _ _ ⟨h0, c1, I1, A1, J1, g1, hH, w1, w2, w3, hR2, hE1.S hS2⟩) (fun z => absurd rfl z)
theorem lc_above (C0 : xC D RL cL_law 7 rt p s m args meth c) (hB : lB b L xs s N) (hW : lWd D N s H locs) (hl : lv_has ls 7 (lv5 b N (i32 (i : Nat)))) (hi : i + 6 ≤ L) (hL : L ≤ 3072) (hf : cells ≤ room_1.cells ∧ slots ≤ room_1.slots) (kk : ∀ (H1 : Heap) (locs1 : List Loc), lWd D N s H1 locs1 → W p l e room_1 s m args below meth c H1 locs1 cells slots Q (F0 m 1527 ls [])) : W p l e room_1 s m args below meth c H locs cells slots Q (F0 m 843 ls []) := by
  obtain ⟨h0, cs, I, A, J, g, hH, hg, hc, hr, hR, hE⟩ := hW
  have hx := C0.1
  have hb := C0.2.1
  obtain ⟨v, c1, I1, A1, J1, g1, w1, w2, w3, -, e1, e2⟩ := lo_above (xs (i + 1)) h0 hH cs I A J g hg hc hr
  refine lv_aload_n hx hb dL_law_843 rfl (lv_at hl 1 rfl) ?_
  refine l_arg (k := 1) C0 hB hE hl hi hL (by decide) dL_law_844 dL_law_845 dL_law_847 dL_law_848 dL_law_849 ?_
  refine cl_L_95 C0 hR hE.s e1 ty11 ⟨Nat.le_of_ble_eq_true rfl, Nat.le_of_ble_eq_true rfl⟩ hl.1 (Nat.le_of_ble_eq_true rfl) hf dL_law_850 (fun H1 locs1 hR1 hS1 => ?_)
  have hE1 := hE.S hS1
  refine lv_aload_n hx hb dL_law_853 rfl (lv_at hl 2 rfl) ?_
  refine l_arg (k := 1) C0 hB hE1 hl hi hL (by decide) dL_law_854 dL_law_855 dL_law_857 dL_law_858 dL_law_859 ?_
  refine cl_L_98 C0 hR1 hE1.s e2 ty12 ⟨Nat.le_of_ble_eq_true rfl, Nat.le_of_ble_eq_true rfl⟩ hl.1 (Nat.le_of_ble_eq_true rfl) hf dL_law_860 (fun H2 locs2 hR2 hS2 => ?_)
  exact lv_icmp_eq (tgt := 1527) hx hb dL_law_863 (by decide) (fun _ => kk _ _ ⟨h0, c1, I1, A1, J1, g1, hH, w1, w2, w3, hR2, hE1.S hS2⟩) (fun z => absurd rfl z)
theorem lc_shadowed (C0 : xC D RL cL_law 7 rt p s m args meth c) (hB : lB b L xs s N) (hW : lWd D N s H locs) (hl : lv_has ls 7 (lv5 b N (i32 (i : Nat)))) (hi : i + 6 ≤ L) (hL : L ≤ 3072) (hf : cells ≤ room_1.cells ∧ slots ≤ room_1.slots) (kk : ∀ (H1 : Heap) (locs1 : List Loc), lWd D N s H1 locs1 → W p l e room_1 s m args below meth c H1 locs1 cells slots Q (F0 m 1527 ls [])) : W p l e room_1 s m args below meth c H locs cells slots Q (F0 m 868 ls []) := by
  obtain ⟨h0, cs, I, A, J, g, hH, hg, hc, hr, hR, hE⟩ := hW
  have hx := C0.1
  have hb := C0.2.1
  obtain ⟨v, c1, I1, A1, J1, g1, w1, w2, w3, -, e1, e2⟩ := lo_shadowed  h0 hH cs I A J g hg hc hr
  refine lv_aload_n hx hb dL_law_868 rfl (lv_at hl 1 rfl) ?_
  refine cl_L_99 C0 hR hE.s e1 ty11 ⟨Nat.le_of_ble_eq_true rfl, Nat.le_of_ble_eq_true rfl⟩ hl.1 (Nat.le_of_ble_eq_true rfl) hf dL_law_869 (fun H1 locs1 hR1 hS1 => ?_)
  have hE1 := hE.S hS1
  refine lv_aload_n hx hb dL_law_872 rfl (lv_at hl 2 rfl) ?_
  refine cl_L_102 C0 hR1 hE1.s e2 ty12 ⟨Nat.le_of_ble_eq_true rfl, Nat.le_of_ble_eq_true rfl⟩ hl.1 (Nat.le_of_ble_eq_true rfl) hf dL_law_873 (fun H2 locs2 hR2 hS2 => ?_)
  exact lv_icmp_eq (tgt := 1527) hx hb dL_law_876 (by decide) (fun _ => kk _ _ ⟨h0, c1, I1, A1, J1, g1, hH, w1, w2, w3, hR2, hE1.S hS2⟩) (fun z => absurd rfl z)
theorem lc_joined (C0 : xC D RL cL_law 7 rt p s m args meth c) (hB : lB b L xs s N) (hW : lWd D N s H locs) (hl : lv_has ls 7 (lv5 b N (i32 (i : Nat)))) (hi : i + 6 ≤ L) (hL : L ≤ 3072) (hf : cells ≤ room_1.cells ∧ slots ≤ room_1.slots) (kk : ∀ (H1 : Heap) (locs1 : List Loc), lWd D N s H1 locs1 → W p l e room_1 s m args below meth c H1 locs1 cells slots Q (F0 m 1527 ls [])) : W p l e room_1 s m args below meth c H locs cells slots Q (F0 m 881 ls []) := by
  obtain ⟨h0, cs, I, A, J, g, hH, hg, hc, hr, hR, hE⟩ := hW
  have hx := C0.1
  have hb := C0.2.1
  obtain ⟨v, c1, I1, A1, J1, g1, w1, w2, w3, -, e1, e2⟩ := lo_joined (xs (i + 1)) (xs (i + 2)) (xs (i + 3)) h0 hH cs I A J g hg hc hr
  refine lv_aload_n hx hb dL_law_881 rfl (lv_at hl 1 rfl) ?_
  refine l_arg (k := 1) C0 hB hE hl hi hL (by decide) dL_law_882 dL_law_883 dL_law_885 dL_law_886 dL_law_887 ?_
  refine l_arg (k := 2) C0 hB hE hl hi hL (by decide) dL_law_888 dL_law_889 dL_law_891 dL_law_892 dL_law_893 ?_
  refine l_arg (k := 3) C0 hB hE hl hi hL (by decide) dL_law_894 dL_law_895 dL_law_897 dL_law_898 dL_law_899 ?_
  refine cl_L_103 C0 hR hE.s e1 ty11 ⟨Nat.le_of_ble_eq_true rfl, Nat.le_of_ble_eq_true rfl⟩ hl.1 (Nat.le_of_ble_eq_true rfl) hf dL_law_900 (fun H1 locs1 hR1 hS1 => ?_)
  have hE1 := hE.S hS1
  refine lv_aload_n hx hb dL_law_903 rfl (lv_at hl 2 rfl) ?_
  refine l_arg (k := 1) C0 hB hE1 hl hi hL (by decide) dL_law_904 dL_law_905 dL_law_907 dL_law_908 dL_law_909 ?_
  refine l_arg (k := 2) C0 hB hE1 hl hi hL (by decide) dL_law_910 dL_law_911 dL_law_913 dL_law_914 dL_law_915 ?_
  refine l_arg (k := 3) C0 hB hE1 hl hi hL (by decide) dL_law_916 dL_law_917 dL_law_919 dL_law_920 dL_law_921 ?_
  refine cl_L_106 C0 hR1 hE1.s e2 ty12 ⟨Nat.le_of_ble_eq_true rfl, Nat.le_of_ble_eq_true rfl⟩ hl.1 (Nat.le_of_ble_eq_true rfl) hf dL_law_922 (fun H2 locs2 hR2 hS2 => ?_)
  exact lv_icmp_eq (tgt := 1527) hx hb dL_law_925 (by decide) (fun _ => kk _ _ ⟨h0, c1, I1, A1, J1, g1, hH, w1, w2, w3, hR2, hE1.S hS2⟩) (fun z => absurd rfl z)
theorem lc_overlaps (C0 : xC D RL cL_law 7 rt p s m args meth c) (hB : lB b L xs s N) (hW : lWd D N s H locs) (hl : lv_has ls 7 (lv5 b N (i32 (i : Nat)))) (hi : i + 6 ≤ L) (hL : L ≤ 3072) (hf : cells ≤ room_1.cells ∧ slots ≤ room_1.slots) (kk : ∀ (H1 : Heap) (locs1 : List Loc), lWd D N s H1 locs1 → W p l e room_1 s m args below meth c H1 locs1 cells slots Q (F0 m 1527 ls [])) : W p l e room_1 s m args below meth c H locs cells slots Q (F0 m 930 ls []) := by
  obtain ⟨h0, cs, I, A, J, g, hH, hg, hc, hr, hR, hE⟩ := hW
  have hx := C0.1
  have hb := C0.2.1
  obtain ⟨v, c1, I1, A1, J1, g1, w1, w2, w3, -, e1, e2⟩ := lo_overlaps (xs (i + 1)) (xs (i + 2)) h0 hH cs I A J g hg hc hr
  refine lv_aload_n hx hb dL_law_930 rfl (lv_at hl 1 rfl) ?_
  refine l_arg (k := 1) C0 hB hE hl hi hL (by decide) dL_law_931 dL_law_932 dL_law_934 dL_law_935 dL_law_936 ?_
  refine l_arg (k := 2) C0 hB hE hl hi hL (by decide) dL_law_937 dL_law_938 dL_law_940 dL_law_941 dL_law_942 ?_
  refine cl_L_107 C0 hR hE.s e1 ty11 ⟨Nat.le_of_ble_eq_true rfl, Nat.le_of_ble_eq_true rfl⟩ hl.1 (Nat.le_of_ble_eq_true rfl) hf dL_law_943 (fun H1 locs1 hR1 hS1 => ?_)
  have hE1 := hE.S hS1
  refine lv_aload_n hx hb dL_law_946 rfl (lv_at hl 2 rfl) ?_
  refine l_arg (k := 1) C0 hB hE1 hl hi hL (by decide) dL_law_947 dL_law_948 dL_law_950 dL_law_951 dL_law_952 ?_
  refine l_arg (k := 2) C0 hB hE1 hl hi hL (by decide) dL_law_953 dL_law_954 dL_law_956 dL_law_957 dL_law_958 ?_
  refine cl_L_110 C0 hR1 hE1.s e2 ty12 ⟨Nat.le_of_ble_eq_true rfl, Nat.le_of_ble_eq_true rfl⟩ hl.1 (Nat.le_of_ble_eq_true rfl) hf dL_law_959 (fun H2 locs2 hR2 hS2 => ?_)
  exact lv_icmp_eq (tgt := 1527) hx hb dL_law_962 (by decide) (fun _ => kk _ _ ⟨h0, c1, I1, A1, J1, g1, hH, w1, w2, w3, hR2, hE1.S hS2⟩) (fun z => absurd rfl z)
theorem lc_shared (C0 : xC D RL cL_law 7 rt p s m args meth c) (hB : lB b L xs s N) (hW : lWd D N s H locs) (hl : lv_has ls 7 (lv5 b N (i32 (i : Nat)))) (hi : i + 6 ≤ L) (hL : L ≤ 3072) (hf : cells ≤ room_1.cells ∧ slots ≤ room_1.slots) (kk : ∀ (H1 : Heap) (locs1 : List Loc), lWd D N s H1 locs1 → W p l e room_1 s m args below meth c H1 locs1 cells slots Q (F0 m 1527 ls [])) : W p l e room_1 s m args below meth c H locs cells slots Q (F0 m 967 ls []) := by
  obtain ⟨h0, cs, I, A, J, g, hH, hg, hc, hr, hR, hE⟩ := hW
  have hx := C0.1
  have hb := C0.2.1
  obtain ⟨v, I1, A1, w3, -, e1, e2⟩ := lo_shared (xs (i + 1)) (xs (i + 2)) h0 hH cs I A J g hg hc hr
  refine lv_aload_n hx hb dL_law_967 rfl (lv_at hl 1 rfl) ?_
  refine l_arg (k := 1) C0 hB hE hl hi hL (by decide) dL_law_968 dL_law_969 dL_law_971 dL_law_972 dL_law_973 ?_
  refine l_arg (k := 2) C0 hB hE hl hi hL (by decide) dL_law_974 dL_law_975 dL_law_977 dL_law_978 dL_law_979 ?_
  refine cl_L_111 C0 hR hE.s e1 ty11 ⟨Nat.le_of_ble_eq_true rfl, Nat.le_of_ble_eq_true rfl⟩ hl.1 (Nat.le_of_ble_eq_true rfl) hf dL_law_980 (fun H1 locs1 hR1 hS1 => ?_)
  have hE1 := hE.S hS1
  refine lv_aload_n hx hb dL_law_983 rfl (lv_at hl 2 rfl) ?_
  refine l_arg (k := 1) C0 hB hE1 hl hi hL (by decide) dL_law_984 dL_law_985 dL_law_987 dL_law_988 dL_law_989 ?_
  refine l_arg (k := 2) C0 hB hE1 hl hi hL (by decide) dL_law_990 dL_law_991 dL_law_993 dL_law_994 dL_law_995 ?_
  refine cl_L_114 C0 hR1 hE1.s e2 ty12 ⟨Nat.le_of_ble_eq_true rfl, Nat.le_of_ble_eq_true rfl⟩ hl.1 (Nat.le_of_ble_eq_true rfl) hf dL_law_996 (fun H2 locs2 hR2 hS2 => ?_)
  exact lv_icmp_eq (tgt := 1527) hx hb dL_law_999 (by decide) (fun _ => kk _ _ ⟨h0, cs, I1, A1, J, g, hH, hg, hc, w3, hR2, hE1.S hS2⟩) (fun z => absurd rfl z)
end LOPS
