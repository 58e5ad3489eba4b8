theorem dX12_filled_0 : decode cX12_filled 0 = .ok (.aload_n 0, 1) := by decide +kernel
theorem dX12_filled_1 : decode cX12_filled 1 = .ok (.iconst 0, 1) := by decide +kernel
theorem dX12_filled_2 : decode cX12_filled 2 = .ok (.putfield 101, 3) := by decide +kernel
theorem dX12_filled_5 : decode cX12_filled 5 = .ok (.aload_n 0, 1) := by decide +kernel
theorem dX12_filled_6 : decode cX12_filled 6 = .ok (.iload_n 1, 1) := by decide +kernel
theorem dX12_filled_7 : decode cX12_filled 7 = .ok (.invokevirtual 282, 3) := by decide +kernel
theorem dX12_filled_10 : decode cX12_filled 10 = .ok (.ifCond .eq 31, 3) := by decide +kernel
theorem dX12_filled_13 : decode cX12_filled 13 = .ok (.iload_n 2, 1) := by decide +kernel
theorem dX12_filled_14 : decode cX12_filled 14 = .ok (.iconst 0, 1) := by decide +kernel
theorem dX12_filled_15 : decode cX12_filled 15 = .ok (.iconst 3, 1) := by decide +kernel
theorem dX12_filled_16 : decode cX12_filled 16 = .ok (.invokestatic 146, 3) := by decide +kernel
theorem dX12_filled_19 : decode cX12_filled 19 = .ok (.ifCond .eq 22, 3) := by decide +kernel
theorem dX12_filled_22 : decode cX12_filled 22 = .ok (.iload_n 3, 1) := by decide +kernel
theorem dX12_filled_23 : decode cX12_filled 23 = .ok (.ifCond .lt 18, 3) := by decide +kernel
theorem dX12_filled_26 : decode cX12_filled 26 = .ok (.aload_n 0, 1) := by decide +kernel
theorem dX12_filled_27 : decode cX12_filled 27 = .ok (.getfield 188, 3) := by decide +kernel
theorem dX12_filled_30 : decode cX12_filled 30 = .ok (.ifCond .eq 11, 3) := by decide +kernel
theorem dX12_filled_33 : decode cX12_filled 33 = .ok (.aload_n 0, 1) := by decide +kernel
theorem dX12_filled_34 : decode cX12_filled 34 = .ok (.iload_n 1, 1) := by decide +kernel
theorem dX12_filled_35 : decode cX12_filled 35 = .ok (.invokevirtual 285, 3) := by decide +kernel
theorem dX12_filled_38 : decode cX12_filled 38 = .ok (.ifCond .ne 5, 3) := by decide +kernel
theorem dX12_filled_41 : decode cX12_filled 41 = .ok (.iconst (-1), 1) := by decide +kernel
theorem dX12_filled_42 : decode cX12_filled 42 = .ok (.ireturn, 1) := by decide +kernel
theorem dX12_filled_43 : decode cX12_filled 43 = .ok (.aload_n 0, 1) := by decide +kernel
theorem dX12_filled_44 : decode cX12_filled 44 = .ok (.invokevirtual 263, 3) := by decide +kernel
theorem dX12_filled_47 : decode cX12_filled 47 = .ok (.aload_n 0, 1) := by decide +kernel
theorem dX12_filled_48 : decode cX12_filled 48 = .ok (.invokevirtual 266, 3) := by decide +kernel
theorem dX12_filled_51 : decode cX12_filled 51 = .ok (.istore 4, 2) := by decide +kernel
theorem dX12_filled_53 : decode cX12_filled 53 = .ok (.aload_n 0, 1) := by decide +kernel
theorem dX12_filled_54 : decode cX12_filled 54 = .ok (.aload_n 0, 1) := by decide +kernel
theorem dX12_filled_55 : decode cX12_filled 55 = .ok (.iload_n 1, 1) := by decide +kernel
theorem dX12_filled_56 : decode cX12_filled 56 = .ok (.iconst 4, 1) := by decide +kernel
theorem dX12_filled_57 : decode cX12_filled 57 = .ok (.invokevirtual 270, 3) := by decide +kernel
theorem dX12_filled_60 : decode cX12_filled 60 = .ok (.iload 4, 2) := by decide +kernel
theorem dX12_filled_62 : decode cX12_filled 62 = .ok (.invokevirtual 273, 3) := by decide +kernel
theorem dX12_filled_65 : decode cX12_filled 65 = .ok (.ifCond .eq 14, 3) := by decide +kernel
theorem dX12_filled_68 : decode cX12_filled 68 = .ok (.aload_n 0, 1) := by decide +kernel
theorem dX12_filled_69 : decode cX12_filled 69 = .ok (.getfield 56, 3) := by decide +kernel
theorem dX12_filled_72 : decode cX12_filled 72 = .ok (.iconst 4, 1) := by decide +kernel
theorem dX12_filled_73 : decode cX12_filled 73 = .ok (.iload_n 2, 1) := by decide +kernel
theorem dX12_filled_74 : decode cX12_filled 74 = .ok (.iadd, 1) := by decide +kernel
theorem dX12_filled_75 : decode cX12_filled 75 = .ok (.iaload, 1) := by decide +kernel
theorem dX12_filled_76 : decode cX12_filled 76 = .ok (.ifCond .ge 6, 3) := by decide +kernel
theorem dX12_filled_79 : decode cX12_filled 79 = .ok (.bipush (-2), 2) := by decide +kernel
theorem dX12_filled_81 : decode cX12_filled 81 = .ok (.ireturn, 1) := by decide +kernel
theorem dX12_filled_82 : decode cX12_filled 82 = .ok (.aload_n 0, 1) := by decide +kernel
theorem dX12_filled_83 : decode cX12_filled 83 = .ok (.getfield 56, 3) := by decide +kernel
theorem dX12_filled_86 : decode cX12_filled 86 = .ok (.iconst 4, 1) := by decide +kernel
theorem dX12_filled_87 : decode cX12_filled 87 = .ok (.iload_n 2, 1) := by decide +kernel
theorem dX12_filled_88 : decode cX12_filled 88 = .ok (.iadd, 1) := by decide +kernel
theorem dX12_filled_89 : decode cX12_filled 89 = .ok (.iaload, 1) := by decide +kernel
theorem dX12_filled_90 : decode cX12_filled 90 = .ok (.istore 5, 2) := by decide +kernel
theorem dX12_filled_92 : decode cX12_filled 92 = .ok (.iload_n 3, 1) := by decide +kernel
theorem dX12_filled_93 : decode cX12_filled 93 = .ok (.aload_n 0, 1) := by decide +kernel
theorem dX12_filled_94 : decode cX12_filled 94 = .ok (.iload 5, 2) := by decide +kernel
theorem dX12_filled_96 : decode cX12_filled 96 = .ok (.invokevirtual 241, 3) := by decide +kernel
theorem dX12_filled_99 : decode cX12_filled 99 = .ok (.iload 5, 2) := by decide +kernel
theorem dX12_filled_101 : decode cX12_filled 101 = .ok (.isub, 1) := by decide +kernel
theorem dX12_filled_102 : decode cX12_filled 102 = .ok (.if_icmp .ge 15, 3) := by decide +kernel
theorem dX12_filled_105 : decode cX12_filled 105 = .ok (.aload_n 0, 1) := by decide +kernel
theorem dX12_filled_106 : decode cX12_filled 106 = .ok (.getfield 53, 3) := by decide +kernel
theorem dX12_filled_109 : decode cX12_filled 109 = .ok (.iload 5, 2) := by decide +kernel
theorem dX12_filled_111 : decode cX12_filled 111 = .ok (.iload_n 3, 1) := by decide +kernel
theorem dX12_filled_112 : decode cX12_filled 112 = .ok (.iadd, 1) := by decide +kernel
theorem dX12_filled_113 : decode cX12_filled 113 = .ok (.iaload, 1) := by decide +kernel
theorem dX12_filled_114 : decode cX12_filled 114 = .ok (.goto 5, 3) := by decide +kernel
theorem dX12_filled_117 : decode cX12_filled 117 = .ok (.bipush (-2), 2) := by decide +kernel
theorem dX12_filled_119 : decode cX12_filled 119 = .ok (.ireturn, 1) := by decide +kernel
set_option maxHeartbeats 4000000 in
set_option maxRecDepth 100000 in
theorem jc_X12_filled {l : Launch} {D : xD} {ty : xTy} {h : xH} {v0 : Nat} {v1 : Int32} {v2 : Int32} {v3 : Int32} {r : Int32} {h9 : xH} (t_v0 : ty v0 = some (0, 12)) (hF : jf_X12_filled ty h v0 v1 v2 v3 = some (r, h9)) : Met l yX12_filled (xws yX12_filled cX12_filled 6 (some .int)) jr_X12_filled (xPc D ty h [.ref v0, .int v1, .int v2, .int v3]) (xQ D ty (some (.int r)) h9) 0 0 (xdom ty) := by
  refine x_met (by decide) ?_
  intro p e s m below meth c C0 hR
  generalize hargs : ([.ref v0, .int v1, .int v2, .int v3] : List Value).toArray = args at C0 ⊢
  have hx := C0.1
  have hb := C0.2.1
  have hown := C0.2.2.2.2.2.1
  have hts := C0.2.2.2.2.2.2.1
  have hS : xS ty s.heap s.heap [] := xS.rf
  have hl := lv_entry ([.ref v0, .int v1, .int v2, .int v3]) (n := 6) (Nat.le_of_ble_eq_true rfl)
  rw [← hargs, lg_entry_eq]
  rw [hargs]
  generalize (lg_sl ([.ref v0, .int v1, .int v2, .int v3]) ++ List.replicate (6 - (lg_sl ([.ref v0, .int v1, .int v2, .int v3])).length) Slot.unset).toArray = ls at hl ⊢
  have hl : lv_has ls 6 [(0, .ref v0), (1, .int v1), (2, .int v2), (3, .int v3)] := hl
  unfold jf_X12_filled at hF
  refine lv_aload_n hx hb dX12_filled_0 rfl (lv_at hl 0 rfl) ?_
  refine lv_iconst (v := 0) hx hb dX12_filled_1 (by decide) ?_
  obtain ⟨h1, e_h1, hF⟩ := xbd hF
  refine pf_X12_101 C0 hR hS t_v0 dX12_filled_2 (fun H locs hR hS => ?_)
  rw [Option.some.inj e_h1] at hR
  refine lv_aload_n hx hb dX12_filled_5 rfl (lv_at hl 0 rfl) ?_
  refine lv_iload_n hx hb dX12_filled_6 rfl (lv_at hl 1 rfl) ?_
  obtain ⟨a2, e_a2, hF⟩ := xbd hF
  refine cl_X12_282 C0 hR hS e_a2 t_v0 ⟨(Nat.le_of_ble_eq_true rfl), (Nat.le_of_ble_eq_true rfl)⟩ hl.1 (Nat.le_of_ble_eq_true rfl) ⟨(Nat.le_of_ble_eq_true rfl), (Nat.le_of_ble_eq_true rfl)⟩ dX12_filled_7 (fun H locs hR hS => ?_)
  refine lv_if_eq (tgt := 41) hx hb dX12_filled_10 (by decide) (fun c3 => ?_) (fun c3 => ?_)
  · have hF := xif hF c3
    refine lv_iconst (v := (-1)) hx hb dX12_filled_41 (by decide) ?_
    cases hF
    exact x_iret C0 hR hS dX12_filled_42
  · have hF := xel hF c3
    refine lv_iload_n hx hb dX12_filled_13 rfl (lv_at hl 2 rfl) ?_
    refine lv_iconst (v := 0) hx hb dX12_filled_14 (by decide) ?_
    refine lv_iconst (v := 3) hx hb dX12_filled_15 (by decide) ?_
    obtain ⟨a4, e_a4, hF⟩ := xbd hF
    refine cl_X12_146 C0 hR hS e_a4  ⟨(Nat.le_of_ble_eq_true rfl), (Nat.le_of_ble_eq_true rfl)⟩ hl.1 (Nat.le_of_ble_eq_true rfl) ⟨(Nat.le_of_ble_eq_true rfl), (Nat.le_of_ble_eq_true rfl)⟩ dX12_filled_16 (fun H locs hR hS => ?_)
    refine lv_if_eq (tgt := 41) hx hb dX12_filled_19 (by decide) (fun c5 => ?_) (fun c5 => ?_)
    · have hF := xif hF c5
      refine lv_iconst (v := (-1)) hx hb dX12_filled_41 (by decide) ?_
      cases hF
      exact x_iret C0 hR hS dX12_filled_42
    · have hF := xel hF c5
      refine lv_iload_n hx hb dX12_filled_22 rfl (lv_at hl 3 rfl) ?_
      refine lv_if_lt (tgt := 41) hx hb dX12_filled_23 (by decide) (fun c6 => ?_) (fun c6 => ?_)
      · have hF := xif hF c6
        refine lv_iconst (v := (-1)) hx hb dX12_filled_41 (by decide) ?_
        cases hF
        exact x_iret C0 hR hS dX12_filled_42
      · have hF := xel hF c6
        refine lv_aload_n hx hb dX12_filled_26 rfl (lv_at hl 0 rfl) ?_
        refine gf_X12_188 C0 hR t_v0 dX12_filled_27 ?_
        refine lv_if_eq (tgt := 41) hx hb dX12_filled_30 (by decide) (fun c7 => ?_) (fun c7 => ?_)
        · have hF := xif hF c7
          refine lv_iconst (v := (-1)) hx hb dX12_filled_41 (by decide) ?_
          cases hF
          exact x_iret C0 hR hS dX12_filled_42
        · have hF := xel hF c7
          refine lv_aload_n hx hb dX12_filled_33 rfl (lv_at hl 0 rfl) ?_
          refine lv_iload_n hx hb dX12_filled_34 rfl (lv_at hl 1 rfl) ?_
          obtain ⟨a8, e_a8, hF⟩ := xbd hF
          refine cl_X12_285 C0 hR hS e_a8 t_v0 ⟨(Nat.le_of_ble_eq_true rfl), (Nat.le_of_ble_eq_true rfl)⟩ hl.1 (Nat.le_of_ble_eq_true rfl) ⟨(Nat.le_of_ble_eq_true rfl), (Nat.le_of_ble_eq_true rfl)⟩ dX12_filled_35 (fun H locs hR hS => ?_)
          refine lv_if_ne (tgt := 43) hx hb dX12_filled_38 (by decide) (fun c9 => ?_) (fun c9 => ?_)
          · have hF := xel hF c9
            refine lv_aload_n hx hb dX12_filled_43 rfl (lv_at hl 0 rfl) ?_
            obtain ⟨h10, e_h10, hF⟩ := xbd hF
            refine cl_X12_263 C0 hR hS e_h10 t_v0 ⟨(Nat.le_of_ble_eq_true rfl), (Nat.le_of_ble_eq_true rfl)⟩ hl.1 (Nat.le_of_ble_eq_true rfl) ⟨(Nat.le_of_ble_eq_true rfl), (Nat.le_of_ble_eq_true rfl)⟩ dX12_filled_44 (fun H locs hR hS => ?_)
            refine lv_aload_n hx hb dX12_filled_47 rfl (lv_at hl 0 rfl) ?_
            obtain ⟨a12, h11, e_h11, hF⟩ := xbd2 hF
            refine cl_X12_266 C0 hR hS e_h11 t_v0 ⟨(Nat.le_of_ble_eq_true rfl), (Nat.le_of_ble_eq_true rfl)⟩ hl.1 (Nat.le_of_ble_eq_true rfl) ⟨(Nat.le_of_ble_eq_true rfl), (Nat.le_of_ble_eq_true rfl)⟩ dX12_filled_48 (fun H locs hR hS => ?_)
            refine lv_istore (lv' := [(4, .int a12), (0, .ref v0), (1, .int v1), (2, .int v2), (3, .int v3)]) hx hb dX12_filled_51 hl (by decide) rfl (fun ls hl => ?_)
            refine lv_aload_n hx hb dX12_filled_53 rfl (lv_at hl 1 rfl) ?_
            refine lv_aload_n hx hb dX12_filled_54 rfl (lv_at hl 1 rfl) ?_
            refine lv_iload_n hx hb dX12_filled_55 rfl (lv_at hl 2 rfl) ?_
            refine lv_iconst (v := 4) hx hb dX12_filled_56 (by decide) ?_
            obtain ⟨a14, h13, e_h13, hF⟩ := xbd2 hF
            refine cl_X12_270 C0 hR hS e_h13 t_v0 ⟨(Nat.le_of_ble_eq_true rfl), (Nat.le_of_ble_eq_true rfl)⟩ hl.1 (Nat.le_of_ble_eq_true rfl) ⟨(Nat.le_of_ble_eq_true rfl), (Nat.le_of_ble_eq_true rfl)⟩ dX12_filled_57 (fun H locs hR hS => ?_)
            refine lv_iload hx hb dX12_filled_60 (lv_at hl 0 rfl) ?_
            obtain ⟨a16, h15, e_h15, hF⟩ := xbd2 hF
            refine cl_X12_273 C0 hR hS e_h15 t_v0 ⟨(Nat.le_of_ble_eq_true rfl), (Nat.le_of_ble_eq_true rfl)⟩ hl.1 (Nat.le_of_ble_eq_true rfl) ⟨(Nat.le_of_ble_eq_true rfl), (Nat.le_of_ble_eq_true rfl)⟩ dX12_filled_62 (fun H locs hR hS => ?_)
            refine lv_if_eq (tgt := 79) hx hb dX12_filled_65 (by decide) (fun c17 => ?_) (fun c17 => ?_)
            · have hF := xif hF c17
              refine lv_bipush (v := (-2)) hx hb dX12_filled_79 (by decide) ?_
              cases hF
              exact x_iret C0 hR hS dX12_filled_81
            · have hF := xel hF c17
              refine lv_aload_n hx hb dX12_filled_68 rfl (lv_at hl 1 rfl) ?_
              obtain ⟨a18, e_a18, hF⟩ := xbd hF
              refine gf_X12_56 C0 hR t_v0 e_a18 dX12_filled_69 ?_
              refine lv_iconst (v := 4) hx hb dX12_filled_72 (by decide) ?_
              refine lv_iload_n hx hb dX12_filled_73 rfl (lv_at hl 3 rfl) ?_
              refine lv_iadd hx hb dX12_filled_74 ?_
              obtain ⟨a19, e_a19, hF⟩ := xbd hF
              refine x_iald C0 hR e_a19 dX12_filled_75 ?_
              refine lv_if_ge (tgt := 82) hx hb dX12_filled_76 (by decide) (fun c20 => ?_) (fun c20 => ?_)
              · have hF := xif hF c20
                refine lv_aload_n hx hb dX12_filled_82 rfl (lv_at hl 1 rfl) ?_
                obtain ⟨a21, e_a21, hF⟩ := xbd hF
                refine gf_X12_56 C0 hR t_v0 e_a21 dX12_filled_83 ?_
                refine lv_iconst (v := 4) hx hb dX12_filled_86 (by decide) ?_
                refine lv_iload_n hx hb dX12_filled_87 rfl (lv_at hl 3 rfl) ?_
                refine lv_iadd hx hb dX12_filled_88 ?_
                obtain ⟨a22, e_a22, hF⟩ := xbd hF
                refine x_iald C0 hR e_a22 dX12_filled_89 ?_
                refine lv_istore (lv' := [(5, .int a22), (4, .int a12), (0, .ref v0), (1, .int v1), (2, .int v2), (3, .int v3)]) hx hb dX12_filled_90 hl (by decide) rfl (fun ls hl => ?_)
                refine lv_iload_n hx hb dX12_filled_92 rfl (lv_at hl 5 rfl) ?_
                refine lv_aload_n hx hb dX12_filled_93 rfl (lv_at hl 2 rfl) ?_
                refine lv_iload hx hb dX12_filled_94 (lv_at hl 0 rfl) ?_
                obtain ⟨a23, e_a23, hF⟩ := xbd hF
                refine cl_X12_241 C0 hR hS e_a23 t_v0 ⟨(Nat.le_of_ble_eq_true rfl), (Nat.le_of_ble_eq_true rfl)⟩ hl.1 (Nat.le_of_ble_eq_true rfl) ⟨(Nat.le_of_ble_eq_true rfl), (Nat.le_of_ble_eq_true rfl)⟩ dX12_filled_96 (fun H locs hR hS => ?_)
                refine lv_iload hx hb dX12_filled_99 (lv_at hl 0 rfl) ?_
                refine lv_isub hx hb dX12_filled_101 ?_
                refine lv_icmp_ge (tgt := 117) hx hb dX12_filled_102 (by decide) (fun c24 => ?_) (fun c24 => ?_)
                · have hF := xif hF c24
                  refine lv_bipush (v := (-2)) hx hb dX12_filled_117 (by decide) ?_
                  cases hF
                  exact x_iret C0 hR hS dX12_filled_119
                · have hF := xel hF c24
                  refine lv_aload_n hx hb dX12_filled_105 rfl (lv_at hl 2 rfl) ?_
                  obtain ⟨a25, e_a25, hF⟩ := xbd hF
                  refine gf_X12_53 C0 hR t_v0 e_a25 dX12_filled_106 ?_
                  refine lv_iload hx hb dX12_filled_109 (lv_at hl 0 rfl) ?_
                  refine lv_iload_n hx hb dX12_filled_111 rfl (lv_at hl 5 rfl) ?_
                  refine lv_iadd hx hb dX12_filled_112 ?_
                  obtain ⟨a26, e_a26, hF⟩ := xbd hF
                  refine x_iald C0 hR e_a26 dX12_filled_113 ?_
                  refine lv_goto (tgt := 119) hx hb dX12_filled_114 (by decide) ?_
                  cases hF
                  exact x_iret C0 hR hS dX12_filled_119
              · have hF := xel hF c20
                refine lv_bipush (v := (-2)) hx hb dX12_filled_79 (by decide) ?_
                cases hF
                exact x_iret C0 hR hS dX12_filled_81
          · have hF := xif hF c9
            refine lv_iconst (v := (-1)) hx hb dX12_filled_41 (by decide) ?_
            cases hF
            exact x_iret C0 hR hS dX12_filled_42
theorem xm_X12_filled : xMw yX12_filled cX12_filled 6 (some .int) 3 := ⟨xin 1716 (by decide +kernel) rfl, xin 126 (by decide +kernel) rfl, by decide +kernel⟩
theorem xi_X12_filled : Cond.instanceMethod yX12_filled ∈ xT := xin 1714 (by decide +kernel) rfl
theorem xe_X12_filled : Cond.selects yX12_filled.cls yX12_filled yX12_filled ∈ xT := xin 1715 (by decide +kernel) rfl
theorem dX12_meeting_0 : decode cX12_meeting 0 = .ok (.aload_n 0, 1) := by decide +kernel
theorem dX12_meeting_1 : decode cX12_meeting 1 = .ok (.iconst 0, 1) := by decide +kernel
theorem dX12_meeting_2 : decode cX12_meeting 2 = .ok (.putfield 101, 3) := by decide +kernel
theorem dX12_meeting_5 : decode cX12_meeting 5 = .ok (.aload_n 0, 1) := by decide +kernel
theorem dX12_meeting_6 : decode cX12_meeting 6 = .ok (.iload_n 1, 1) := by decide +kernel
theorem dX12_meeting_7 : decode cX12_meeting 7 = .ok (.invokevirtual 282, 3) := by decide +kernel
theorem dX12_meeting_10 : decode cX12_meeting 10 = .ok (.ifCond .eq 22, 3) := by decide +kernel
theorem dX12_meeting_13 : decode cX12_meeting 13 = .ok (.iload_n 2, 1) := by decide +kernel
theorem dX12_meeting_14 : decode cX12_meeting 14 = .ok (.ifCond .lt 18, 3) := by decide +kernel
theorem dX12_meeting_17 : decode cX12_meeting 17 = .ok (.aload_n 0, 1) := by decide +kernel
theorem dX12_meeting_18 : decode cX12_meeting 18 = .ok (.getfield 188, 3) := by decide +kernel
theorem dX12_meeting_21 : decode cX12_meeting 21 = .ok (.ifCond .eq 11, 3) := by decide +kernel
theorem dX12_meeting_24 : decode cX12_meeting 24 = .ok (.aload_n 0, 1) := by decide +kernel
theorem dX12_meeting_25 : decode cX12_meeting 25 = .ok (.iload_n 1, 1) := by decide +kernel
theorem dX12_meeting_26 : decode cX12_meeting 26 = .ok (.invokevirtual 285, 3) := by decide +kernel
theorem dX12_meeting_29 : decode cX12_meeting 29 = .ok (.ifCond .ne 5, 3) := by decide +kernel
theorem dX12_meeting_32 : decode cX12_meeting 32 = .ok (.iconst (-1), 1) := by decide +kernel
theorem dX12_meeting_33 : decode cX12_meeting 33 = .ok (.ireturn, 1) := by decide +kernel
theorem dX12_meeting_34 : decode cX12_meeting 34 = .ok (.aload_n 0, 1) := by decide +kernel
theorem dX12_meeting_35 : decode cX12_meeting 35 = .ok (.invokevirtual 263, 3) := by decide +kernel
theorem dX12_meeting_38 : decode cX12_meeting 38 = .ok (.aload_n 0, 1) := by decide +kernel
theorem dX12_meeting_39 : decode cX12_meeting 39 = .ok (.invokevirtual 266, 3) := by decide +kernel
theorem dX12_meeting_42 : decode cX12_meeting 42 = .ok (.istore_n 3, 1) := by decide +kernel
theorem dX12_meeting_43 : decode cX12_meeting 43 = .ok (.aload_n 0, 1) := by decide +kernel
theorem dX12_meeting_44 : decode cX12_meeting 44 = .ok (.iload_n 3, 1) := by decide +kernel
theorem dX12_meeting_45 : decode cX12_meeting 45 = .ok (.aload_n 0, 1) := by decide +kernel
theorem dX12_meeting_46 : decode cX12_meeting 46 = .ok (.iload_n 1, 1) := by decide +kernel
theorem dX12_meeting_47 : decode cX12_meeting 47 = .ok (.iconst 4, 1) := by decide +kernel
theorem dX12_meeting_48 : decode cX12_meeting 48 = .ok (.invokevirtual 270, 3) := by decide +kernel
theorem dX12_meeting_51 : decode cX12_meeting 51 = .ok (.invokevirtual 276, 3) := by decide +kernel
theorem dX12_meeting_54 : decode cX12_meeting 54 = .ok (.ifCond .eq 11, 3) := by decide +kernel
theorem dX12_meeting_57 : decode cX12_meeting 57 = .ok (.aload_n 0, 1) := by decide +kernel
theorem dX12_meeting_58 : decode cX12_meeting 58 = .ok (.iload_n 3, 1) := by decide +kernel
theorem dX12_meeting_59 : decode cX12_meeting 59 = .ok (.invokevirtual 334, 3) := by decide +kernel
theorem dX12_meeting_62 : decode cX12_meeting 62 = .ok (.ifCond .ne 6, 3) := by decide +kernel
theorem dX12_meeting_65 : decode cX12_meeting 65 = .ok (.bipush (-2), 2) := by decide +kernel
theorem dX12_meeting_67 : decode cX12_meeting 67 = .ok (.ireturn, 1) := by decide +kernel
theorem dX12_meeting_68 : decode cX12_meeting 68 = .ok (.iload_n 2, 1) := by decide +kernel
theorem dX12_meeting_69 : decode cX12_meeting 69 = .ok (.aload_n 0, 1) := by decide +kernel
theorem dX12_meeting_70 : decode cX12_meeting 70 = .ok (.getfield 257, 3) := by decide +kernel
theorem dX12_meeting_73 : decode cX12_meeting 73 = .ok (.if_icmp .ge 12, 3) := by decide +kernel
theorem dX12_meeting_76 : decode cX12_meeting 76 = .ok (.aload_n 0, 1) := by decide +kernel
theorem dX12_meeting_77 : decode cX12_meeting 77 = .ok (.getfield 68, 3) := by decide +kernel
theorem dX12_meeting_80 : decode cX12_meeting 80 = .ok (.iload_n 2, 1) := by decide +kernel
theorem dX12_meeting_81 : decode cX12_meeting 81 = .ok (.iaload, 1) := by decide +kernel
theorem dX12_meeting_82 : decode cX12_meeting 82 = .ok (.goto 5, 3) := by decide +kernel
theorem dX12_meeting_85 : decode cX12_meeting 85 = .ok (.bipush (-2), 2) := by decide +kernel
theorem dX12_meeting_87 : decode cX12_meeting 87 = .ok (.ireturn, 1) := by decide +kernel
theorem wl_X12_334 : Cond.methodLink RX12 334 yX12_isShaped ∈ xT := xin 1721 (by decide +kernel) rfl
section XN_X12_meeting
variable {p : Program} {l : Launch} {e : Env} {R : Room} {s : State} {m : MethodId} {args : Array Value} {below : List Frame} {meth : Method} {c : Code} {H H0 : Heap} {locs : List Loc} {cells slots : Nat} {Q : State → Prop} {cc : ByteArray} {nL pc : Nat} {rt : Option FieldType} {ls : Array Slot} {rest : List Value} {D : xD} {ty : xTy} {h : xH}
theorem cl_X12_334 {v0 : Nat} {v1 : Int32} {r : Int32} {h9 : xH} (C0 : xC D RX12 cc nL rt p s m args meth c) (hR : xRep D ty h H) (hS : xS ty H0 H locs) (hF : jf_X12_isShaped ty h v0 v1 = some (r, h9)) (t_v0 : ty v0 = some (0, 12)) (hrm : jr_X12_isShaped.frames + 1 ≤ R.frames ∧ 8 + (9 + 11) + jr_X12_isShaped.locals ≤ R.locals) (hsz : ls.size = nL) (hW : (rest.map fun v => v.category).sum ≤ 8) (hf : cells ≤ R.cells ∧ slots ≤ R.slots) (hdg : decode cc pc = .ok (.invokevirtual 334, 3)) (kk : ∀ (H1 : Heap) (locs1 : List Loc), xRep D ty h9 H1 → xS ty H0 H1 locs1 → W p l e R s m args below meth c H1 locs1 cells slots Q (F0 m (pc + 3) ls (.int r :: rest))) : W p l e R s m args below meth c H locs cells slots Q (F0 m pc ls (.int v1 :: .ref v0 :: rest)) := x_callV C0 (jc_X12_isShaped t_v0 hF) xm_X12_isShaped xi_X12_isShaped xe_X12_isShaped wl_X12_334 ⟨rfl, rfl, hrm⟩ (ci := 12) rfl t_v0 hR hS (As := [.int v1]) rfl hsz rfl hW hdg hf kk
end XN_X12_meeting
set_option maxHeartbeats 4000000 in
set_option maxRecDepth 100000 in
theorem jc_X12_meeting {l : Launch} {D : xD} {ty : xTy} {h : xH} {v0 : Nat} {v1 : Int32} {v2 : Int32} {r : Int32} {h9 : xH} (t_v0 : ty v0 = some (0, 12)) (hF : jf_X12_meeting ty h v0 v1 v2 = some (r, h9)) : Met l yX12_meeting (xws yX12_meeting cX12_meeting 4 (some .int)) jr_X12_meeting (xPc D ty h [.ref v0, .int v1, .int v2]) (xQ D ty (some (.int r)) h9) 0 0 (xdom ty) := by
  refine x_met (by decide) ?_
  intro p e s m below meth c C0 hR
  generalize hargs : ([.ref v0, .int v1, .int v2] : List Value).toArray = args at C0 ⊢
  have hx := C0.1
  have hb := C0.2.1
  have hown := C0.2.2.2.2.2.1
  have hts := C0.2.2.2.2.2.2.1
  have hS : xS ty s.heap s.heap [] := xS.rf
  have hl := lv_entry ([.ref v0, .int v1, .int v2]) (n := 4) (Nat.le_of_ble_eq_true rfl)
  rw [← hargs, lg_entry_eq]
  rw [hargs]
  generalize (lg_sl ([.ref v0, .int v1, .int v2]) ++ List.replicate (4 - (lg_sl ([.ref v0, .int v1, .int v2])).length) Slot.unset).toArray = ls at hl ⊢
  have hl : lv_has ls 4 [(0, .ref v0), (1, .int v1), (2, .int v2)] := hl
  unfold jf_X12_meeting at hF
  refine lv_aload_n hx hb dX12_meeting_0 rfl (lv_at hl 0 rfl) ?_
  refine lv_iconst (v := 0) hx hb dX12_meeting_1 (by decide) ?_
  obtain ⟨h1, e_h1, hF⟩ := xbd hF
  refine pf_X12_101 C0 hR hS t_v0 dX12_meeting_2 (fun H locs hR hS => ?_)
  rw [Option.some.inj e_h1] at hR
  refine lv_aload_n hx hb dX12_meeting_5 rfl (lv_at hl 0 rfl) ?_
  refine lv_iload_n hx hb dX12_meeting_6 rfl (lv_at hl 1 rfl) ?_
  obtain ⟨a2, e_a2, hF⟩ := xbd hF
  refine cl_X12_282 C0 hR hS e_a2 t_v0 ⟨(Nat.le_of_ble_eq_true rfl), (Nat.le_of_ble_eq_true rfl)⟩ hl.1 (Nat.le_of_ble_eq_true rfl) ⟨(Nat.le_of_ble_eq_true rfl), (Nat.le_of_ble_eq_true rfl)⟩ dX12_meeting_7 (fun H locs hR hS => ?_)
  refine lv_if_eq (tgt := 32) hx hb dX12_meeting_10 (by decide) (fun c3 => ?_) (fun c3 => ?_)
  · have hF := xif hF c3
    refine lv_iconst (v := (-1)) hx hb dX12_meeting_32 (by decide) ?_
    cases hF
    exact x_iret C0 hR hS dX12_meeting_33
  · have hF := xel hF c3
    refine lv_iload_n hx hb dX12_meeting_13 rfl (lv_at hl 2 rfl) ?_
    refine lv_if_lt (tgt := 32) hx hb dX12_meeting_14 (by decide) (fun c4 => ?_) (fun c4 => ?_)
    · have hF := xif hF c4
      refine lv_iconst (v := (-1)) hx hb dX12_meeting_32 (by decide) ?_
      cases hF
      exact x_iret C0 hR hS dX12_meeting_33
    · have hF := xel hF c4
      refine lv_aload_n hx hb dX12_meeting_17 rfl (lv_at hl 0 rfl) ?_
      refine gf_X12_188 C0 hR t_v0 dX12_meeting_18 ?_
      refine lv_if_eq (tgt := 32) hx hb dX12_meeting_21 (by decide) (fun c5 => ?_) (fun c5 => ?_)
      · have hF := xif hF c5
        refine lv_iconst (v := (-1)) hx hb dX12_meeting_32 (by decide) ?_
        cases hF
        exact x_iret C0 hR hS dX12_meeting_33
      · have hF := xel hF c5
        refine lv_aload_n hx hb dX12_meeting_24 rfl (lv_at hl 0 rfl) ?_
        refine lv_iload_n hx hb dX12_meeting_25 rfl (lv_at hl 1 rfl) ?_
        obtain ⟨a6, e_a6, hF⟩ := xbd hF
        refine cl_X12_285 C0 hR hS e_a6 t_v0 ⟨(Nat.le_of_ble_eq_true rfl), (Nat.le_of_ble_eq_true rfl)⟩ hl.1 (Nat.le_of_ble_eq_true rfl) ⟨(Nat.le_of_ble_eq_true rfl), (Nat.le_of_ble_eq_true rfl)⟩ dX12_meeting_26 (fun H locs hR hS => ?_)
        refine lv_if_ne (tgt := 34) hx hb dX12_meeting_29 (by decide) (fun c7 => ?_) (fun c7 => ?_)
        · have hF := xel hF c7
          refine lv_aload_n hx hb dX12_meeting_34 rfl (lv_at hl 0 rfl) ?_
          obtain ⟨h8, e_h8, hF⟩ := xbd hF
          refine cl_X12_263 C0 hR hS e_h8 t_v0 ⟨(Nat.le_of_ble_eq_true rfl), (Nat.le_of_ble_eq_true rfl)⟩ hl.1 (Nat.le_of_ble_eq_true rfl) ⟨(Nat.le_of_ble_eq_true rfl), (Nat.le_of_ble_eq_true rfl)⟩ dX12_meeting_35 (fun H locs hR hS => ?_)
          refine lv_aload_n hx hb dX12_meeting_38 rfl (lv_at hl 0 rfl) ?_
          obtain ⟨a10, h9, e_h9, hF⟩ := xbd2 hF
          refine cl_X12_266 C0 hR hS e_h9 t_v0 ⟨(Nat.le_of_ble_eq_true rfl), (Nat.le_of_ble_eq_true rfl)⟩ hl.1 (Nat.le_of_ble_eq_true rfl) ⟨(Nat.le_of_ble_eq_true rfl), (Nat.le_of_ble_eq_true rfl)⟩ dX12_meeting_39 (fun H locs hR hS => ?_)
          refine lv_istore_n (lv' := [(3, .int a10), (0, .ref v0), (1, .int v1), (2, .int v2)]) hx hb dX12_meeting_42 rfl hl (by decide) rfl (fun ls hl => ?_)
          refine lv_aload_n hx hb dX12_meeting_43 rfl (lv_at hl 1 rfl) ?_
          refine lv_iload_n hx hb dX12_meeting_44 rfl (lv_at hl 0 rfl) ?_
          refine lv_aload_n hx hb dX12_meeting_45 rfl (lv_at hl 1 rfl) ?_
          refine lv_iload_n hx hb dX12_meeting_46 rfl (lv_at hl 2 rfl) ?_
          refine lv_iconst (v := 4) hx hb dX12_meeting_47 (by decide) ?_
          obtain ⟨a12, h11, e_h11, hF⟩ := xbd2 hF
          refine cl_X12_270 C0 hR hS e_h11 t_v0 ⟨(Nat.le_of_ble_eq_true rfl), (Nat.le_of_ble_eq_true rfl)⟩ hl.1 (Nat.le_of_ble_eq_true rfl) ⟨(Nat.le_of_ble_eq_true rfl), (Nat.le_of_ble_eq_true rfl)⟩ dX12_meeting_48 (fun H locs hR hS => ?_)
          obtain ⟨a14, h13, e_h13, hF⟩ := xbd2 hF
          refine cl_X12_276 C0 hR hS e_h13 t_v0 ⟨(Nat.le_of_ble_eq_true rfl), (Nat.le_of_ble_eq_true rfl)⟩ hl.1 (Nat.le_of_ble_eq_true rfl) ⟨(Nat.le_of_ble_eq_true rfl), (Nat.le_of_ble_eq_true rfl)⟩ dX12_meeting_51 (fun H locs hR hS => ?_)
          refine lv_if_eq (tgt := 65) hx hb dX12_meeting_54 (by decide) (fun c15 => ?_) (fun c15 => ?_)
          · have hF := xif hF c15
            refine lv_bipush (v := (-2)) hx hb dX12_meeting_65 (by decide) ?_
            cases hF
            exact x_iret C0 hR hS dX12_meeting_67
          · have hF := xel hF c15
            refine lv_aload_n hx hb dX12_meeting_57 rfl (lv_at hl 1 rfl) ?_
            refine lv_iload_n hx hb dX12_meeting_58 rfl (lv_at hl 0 rfl) ?_
            obtain ⟨a17, h16, e_h16, hF⟩ := xbd2 hF
            refine cl_X12_334 C0 hR hS e_h16 t_v0 ⟨(Nat.le_of_ble_eq_true rfl), (Nat.le_of_ble_eq_true rfl)⟩ hl.1 (Nat.le_of_ble_eq_true rfl) ⟨(Nat.le_of_ble_eq_true rfl), (Nat.le_of_ble_eq_true rfl)⟩ dX12_meeting_59 (fun H locs hR hS => ?_)
            refine lv_if_ne (tgt := 68) hx hb dX12_meeting_62 (by decide) (fun c18 => ?_) (fun c18 => ?_)
            · have hF := xel hF c18
              refine lv_iload_n hx hb dX12_meeting_68 rfl (lv_at hl 3 rfl) ?_
              refine lv_aload_n hx hb dX12_meeting_69 rfl (lv_at hl 1 rfl) ?_
              refine gf_X12_257 C0 hR t_v0 dX12_meeting_70 ?_
              refine lv_icmp_ge (tgt := 85) hx hb dX12_meeting_73 (by decide) (fun c19 => ?_) (fun c19 => ?_)
              · have hF := xif hF c19
                refine lv_bipush (v := (-2)) hx hb dX12_meeting_85 (by decide) ?_
                cases hF
                exact x_iret C0 hR hS dX12_meeting_87
              · have hF := xel hF c19
                refine lv_aload_n hx hb dX12_meeting_76 rfl (lv_at hl 1 rfl) ?_
                obtain ⟨a20, e_a20, hF⟩ := xbd hF
                refine gf_X12_68 C0 hR t_v0 e_a20 dX12_meeting_77 ?_
                refine lv_iload_n hx hb dX12_meeting_80 rfl (lv_at hl 3 rfl) ?_
                obtain ⟨a21, e_a21, hF⟩ := xbd hF
                refine x_iald C0 hR e_a21 dX12_meeting_81 ?_
                refine lv_goto (tgt := 87) hx hb dX12_meeting_82 (by decide) ?_
                cases hF
                exact x_iret C0 hR hS dX12_meeting_87
            · have hF := xif hF c18
              refine lv_bipush (v := (-2)) hx hb dX12_meeting_65 (by decide) ?_
              cases hF
              exact x_iret C0 hR hS dX12_meeting_67
        · have hF := xif hF c7
          refine lv_iconst (v := (-1)) hx hb dX12_meeting_32 (by decide) ?_
          cases hF
          exact x_iret C0 hR hS dX12_meeting_33
theorem xm_X12_meeting : xMw yX12_meeting cX12_meeting 4 (some .int) 2 := ⟨xin 1720 (by decide +kernel) rfl, xin 126 (by decide +kernel) rfl, by decide +kernel⟩
theorem xi_X12_meeting : Cond.instanceMethod yX12_meeting ∈ xT := xin 1718 (by decide +kernel) rfl
theorem xe_X12_meeting : Cond.selects yX12_meeting.cls yX12_meeting yX12_meeting ∈ xT := xin 1719 (by decide +kernel) rfl
theorem dX12_above_0 : decode cX12_above 0 = .ok (.aload_n 0, 1) := by decide +kernel
theorem dX12_above_1 : decode cX12_above 1 = .ok (.iconst 0, 1) := by decide +kernel
theorem dX12_above_2 : decode cX12_above 2 = .ok (.putfield 101, 3) := by decide +kernel
theorem dX12_above_5 : decode cX12_above 5 = .ok (.aload_n 0, 1) := by decide +kernel
theorem dX12_above_6 : decode cX12_above 6 = .ok (.iload_n 1, 1) := by decide +kernel
theorem dX12_above_7 : decode cX12_above 7 = .ok (.invokevirtual 282, 3) := by decide +kernel
theorem dX12_above_10 : decode cX12_above 10 = .ok (.ifCond .eq 11, 3) := by decide +kernel
theorem dX12_above_13 : decode cX12_above 13 = .ok (.aload_n 0, 1) := by decide +kernel
theorem dX12_above_14 : decode cX12_above 14 = .ok (.iload_n 1, 1) := by decide +kernel
theorem dX12_above_15 : decode cX12_above 15 = .ok (.invokevirtual 331, 3) := by decide +kernel
theorem dX12_above_18 : decode cX12_above 18 = .ok (.goto 4, 3) := by decide +kernel
theorem dX12_above_21 : decode cX12_above 21 = .ok (.iconst (-1), 1) := by decide +kernel
theorem dX12_above_22 : decode cX12_above 22 = .ok (.ireturn, 1) := by decide +kernel
set_option maxHeartbeats 4000000 in
set_option maxRecDepth 100000 in
theorem jc_X12_above {l : Launch} {D : xD} {ty : xTy} {h : xH} {v0 : Nat} {v1 : Int32} {r : Int32} {h9 : xH} (t_v0 : ty v0 = some (0, 12)) (hF : jf_X12_above ty h v0 v1 = some (r, h9)) : Met l yX12_above (xws yX12_above cX12_above 2 (some .int)) jr_X12_above (xPc D ty h [.ref v0, .int v1]) (xQ D ty (some (.int r)) h9) 0 0 (xdom ty) := by
  refine x_met (by decide) ?_
  intro p e s m below meth c C0 hR
  generalize hargs : ([.ref v0, .int v1] : List Value).toArray = args at C0 ⊢
  have hx := C0.1
  have hb := C0.2.1
  have hown := C0.2.2.2.2.2.1
  have hts := C0.2.2.2.2.2.2.1
  have hS : xS ty s.heap s.heap [] := xS.rf
  have hl := lv_entry ([.ref v0, .int v1]) (n := 2) (Nat.le_of_ble_eq_true rfl)
  rw [← hargs, lg_entry_eq]
  rw [hargs]
  generalize (lg_sl ([.ref v0, .int v1]) ++ List.replicate (2 - (lg_sl ([.ref v0, .int v1])).length) Slot.unset).toArray = ls at hl ⊢
  have hl : lv_has ls 2 [(0, .ref v0), (1, .int v1)] := hl
  unfold jf_X12_above at hF
  refine lv_aload_n hx hb dX12_above_0 rfl (lv_at hl 0 rfl) ?_
  refine lv_iconst (v := 0) hx hb dX12_above_1 (by decide) ?_
  obtain ⟨h1, e_h1, hF⟩ := xbd hF
  refine pf_X12_101 C0 hR hS t_v0 dX12_above_2 (fun H locs hR hS => ?_)
  rw [Option.some.inj e_h1] at hR
  refine lv_aload_n hx hb dX12_above_5 rfl (lv_at hl 0 rfl) ?_
  refine lv_iload_n hx hb dX12_above_6 rfl (lv_at hl 1 rfl) ?_
  obtain ⟨a2, e_a2, hF⟩ := xbd hF
  refine cl_X12_282 C0 hR hS e_a2 t_v0 ⟨(Nat.le_of_ble_eq_true rfl), (Nat.le_of_ble_eq_true rfl)⟩ hl.1 (Nat.le_of_ble_eq_true rfl) ⟨(Nat.le_of_ble_eq_true rfl), (Nat.le_of_ble_eq_true rfl)⟩ dX12_above_7 (fun H locs hR hS => ?_)
  refine lv_if_eq (tgt := 21) hx hb dX12_above_10 (by decide) (fun c3 => ?_) (fun c3 => ?_)
  · have hF := xif hF c3
    refine lv_iconst (v := (-1)) hx hb dX12_above_21 (by decide) ?_
    cases hF
    exact x_iret C0 hR hS dX12_above_22
  · have hF := xel hF c3
    refine lv_aload_n hx hb dX12_above_13 rfl (lv_at hl 0 rfl) ?_
    refine lv_iload_n hx hb dX12_above_14 rfl (lv_at hl 1 rfl) ?_
    obtain ⟨a5, h4, e_h4, hF⟩ := xbd2 hF
    refine cl_X12_331 C0 hR hS e_h4 t_v0 ⟨(Nat.le_of_ble_eq_true rfl), (Nat.le_of_ble_eq_true rfl)⟩ hl.1 (Nat.le_of_ble_eq_true rfl) ⟨(Nat.le_of_ble_eq_true rfl), (Nat.le_of_ble_eq_true rfl)⟩ dX12_above_15 (fun H locs hR hS => ?_)
    refine lv_goto (tgt := 22) hx hb dX12_above_18 (by decide) ?_
    cases hF
    exact x_iret C0 hR hS dX12_above_22
theorem xm_X12_above : xMw yX12_above cX12_above 2 (some .int) 1 := ⟨xin 1728 (by decide +kernel) rfl, xin 126 (by decide +kernel) rfl, by decide +kernel⟩
theorem xi_X12_above : Cond.instanceMethod yX12_above ∈ xT := xin 1726 (by decide +kernel) rfl
theorem xe_X12_above : Cond.selects yX12_above.cls yX12_above yX12_above ∈ xT := xin 1727 (by decide +kernel) rfl
theorem dX12_shadowed_0 : decode cX12_shadowed 0 = .ok (.aload_n 0, 1) := by decide +kernel
theorem dX12_shadowed_1 : decode cX12_shadowed 1 = .ok (.iconst 0, 1) := by decide +kernel
theorem dX12_shadowed_2 : decode cX12_shadowed 2 = .ok (.putfield 101, 3) := by decide +kernel
theorem dX12_shadowed_5 : decode cX12_shadowed 5 = .ok (.iconst 0, 1) := by decide +kernel
theorem dX12_shadowed_6 : decode cX12_shadowed 6 = .ok (.istore_n 1, 1) := by decide +kernel
theorem dX12_shadowed_7 : decode cX12_shadowed 7 = .ok (.iconst 0, 1) := by decide +kernel
theorem dX12_shadowed_8 : decode cX12_shadowed 8 = .ok (.istore_n 2, 1) := by decide +kernel
theorem dX12_shadowed_9 : decode cX12_shadowed 9 = .ok (.iload_n 2, 1) := by decide +kernel
theorem dX12_shadowed_10 : decode cX12_shadowed 10 = .ok (.aload_n 0, 1) := by decide +kernel
theorem dX12_shadowed_11 : decode cX12_shadowed 11 = .ok (.getfield 178, 3) := by decide +kernel
theorem dX12_shadowed_14 : decode cX12_shadowed 14 = .ok (.if_icmp .ge 40, 3) := by decide +kernel
theorem dX12_shadowed_17 : decode cX12_shadowed 17 = .ok (.iload_n 1, 1) := by decide +kernel
theorem dX12_shadowed_18 : decode cX12_shadowed 18 = .ok (.aload_n 0, 1) := by decide +kernel
theorem dX12_shadowed_19 : decode cX12_shadowed 19 = .ok (.iload_n 2, 1) := by decide +kernel
theorem dX12_shadowed_20 : decode cX12_shadowed 20 = .ok (.invokevirtual 285, 3) := by decide +kernel
theorem dX12_shadowed_23 : decode cX12_shadowed 23 = .ok (.ifCond .eq 22, 3) := by decide +kernel
theorem dX12_shadowed_26 : decode cX12_shadowed 26 = .ok (.aload_n 0, 1) := by decide +kernel
theorem dX12_shadowed_27 : decode cX12_shadowed 27 = .ok (.iload_n 2, 1) := by decide +kernel
theorem dX12_shadowed_28 : decode cX12_shadowed 28 = .ok (.invokevirtual 331, 3) := by decide +kernel
theorem dX12_shadowed_31 : decode cX12_shadowed 31 = .ok (.aload_n 0, 1) := by decide +kernel
theorem dX12_shadowed_32 : decode cX12_shadowed 32 = .ok (.getfield 185, 3) := by decide +kernel
theorem dX12_shadowed_35 : decode cX12_shadowed 35 = .ok (.iand, 1) := by decide +kernel
theorem dX12_shadowed_36 : decode cX12_shadowed 36 = .ok (.iconst (-1), 1) := by decide +kernel
theorem dX12_shadowed_37 : decode cX12_shadowed 37 = .ok (.iload_n 2, 1) := by decide +kernel
theorem dX12_shadowed_38 : decode cX12_shadowed 38 = .ok (.iconst 1, 1) := by decide +kernel
theorem dX12_shadowed_39 : decode cX12_shadowed 39 = .ok (.iadd, 1) := by decide +kernel
theorem dX12_shadowed_40 : decode cX12_shadowed 40 = .ok (.ishl, 1) := by decide +kernel
theorem dX12_shadowed_41 : decode cX12_shadowed 41 = .ok (.iand, 1) := by decide +kernel
theorem dX12_shadowed_42 : decode cX12_shadowed 42 = .ok (.goto 4, 3) := by decide +kernel
theorem dX12_shadowed_45 : decode cX12_shadowed 45 = .ok (.iconst 0, 1) := by decide +kernel
theorem dX12_shadowed_46 : decode cX12_shadowed 46 = .ok (.ior, 1) := by decide +kernel
theorem dX12_shadowed_47 : decode cX12_shadowed 47 = .ok (.istore_n 1, 1) := by decide +kernel
theorem dX12_shadowed_48 : decode cX12_shadowed 48 = .ok (.iinc 2 1, 3) := by decide +kernel
theorem dX12_shadowed_51 : decode cX12_shadowed 51 = .ok (.goto (-42), 3) := by decide +kernel
theorem dX12_shadowed_54 : decode cX12_shadowed 54 = .ok (.iload_n 1, 1) := by decide +kernel
theorem dX12_shadowed_55 : decode cX12_shadowed 55 = .ok (.ireturn, 1) := by decide +kernel
set_option maxHeartbeats 4000000 in
set_option maxRecDepth 100000 in
theorem jw_X12_shadowed_9 {p : Program} {l : Launch} {e : Env} {s : State} {m : MethodId} {args : Array Value} {below : List Frame} {meth : Method} {c : Code} {D : xD} {ty : xTy} (C0 : xC D RX12 cX12_shadowed 3 (some .int) p s m args meth c) {r : Int32} {h9 : xH} : ∀ n : Nat, ∀ (v0 : Nat) (v1 : Int32) (v2 : Int32) (h : xH), ty v0 = some (0, 12) → jf_X12_shadowed_9 ty n v0 v1 v2 h = some (r, h9) → ∀ (H : Heap) (locs : List Loc), xRep D ty h H → xS ty s.heap H locs → ∀ ls : Array Slot, lv_has ls 3 [(0, .ref v0), (1, .int v1), (2, .int v2)] → W p l e jr_X12_shadowed s m args below meth c H locs 0 0 (MQ below (xQ D ty (some (.int r)) h9) args s 0 0 (xdom ty)) (F0 m 9 ls []) := by
  have hx := C0.1
  have hb := C0.2.1
  have hown := C0.2.2.2.2.2.1
  have hts := C0.2.2.2.2.2.2.1
  intro n
  induction n with
  | zero =>
    intro v0 v1 v2 h t_v0 hF H locs hR hS ls hl
    cases hF
  | succ n ih =>
    intro v0 v1 v2 h t_v0 hF H locs hR hS ls hl
    rw [jf_X12_shadowed_9_s] at hF
    refine lv_iload_n hx hb dX12_shadowed_9 rfl (lv_at hl 2 rfl) ?_
    refine lv_aload_n hx hb dX12_shadowed_10 rfl (lv_at hl 0 rfl) ?_
    refine gf_X12_178 C0 hR t_v0 dX12_shadowed_11 ?_
    refine lv_icmp_ge (tgt := 54) hx hb dX12_shadowed_14 (by decide) (fun c1 => ?_) (fun c1 => ?_)
    · have hF := xif hF c1
      refine lv_iload_n hx hb dX12_shadowed_54 rfl (lv_at hl 1 rfl) ?_
      cases hF
      exact x_iret C0 hR hS dX12_shadowed_55
    · have hF := xel hF c1
      refine lv_iload_n hx hb dX12_shadowed_17 rfl (lv_at hl 1 rfl) ?_
      refine lv_aload_n hx hb dX12_shadowed_18 rfl (lv_at hl 0 rfl) ?_
      refine lv_iload_n hx hb dX12_shadowed_19 rfl (lv_at hl 2 rfl) ?_
      obtain ⟨a2, e_a2, hF⟩ := xbd hF
      refine cl_X12_285 C0 hR hS e_a2 t_v0 ⟨(Nat.le_of_ble_eq_true rfl), (Nat.le_of_ble_eq_true rfl)⟩ hl.1 (Nat.le_of_ble_eq_true rfl) ⟨(Nat.le_of_ble_eq_true rfl), (Nat.le_of_ble_eq_true rfl)⟩ dX12_shadowed_20 (fun H locs hR hS => ?_)
      refine lv_if_eq (tgt := 45) hx hb dX12_shadowed_23 (by decide) (fun c3 => ?_) (fun c3 => ?_)
      · have hF := xif hF c3
        refine lv_iconst (v := 0) hx hb dX12_shadowed_45 (by decide) ?_
        refine lv_ior hx hb dX12_shadowed_46 ?_
        refine lv_istore_n (lv' := [(1, .int (v1 ||| 0)), (0, .ref v0), (2, .int v2)]) hx hb dX12_shadowed_47 rfl hl (by decide) rfl (fun ls hl => ?_)
        refine lv_iinc (v := v2 + 1) (lv' := [(2, .int (v2 + 1)), (1, .int (v1 ||| 0)), (0, .ref v0)]) hx hb dX12_shadowed_48 hl (k := 2) rfl rfl (by decide) rfl (fun ls hl => ?_)
        refine lv_goto (tgt := 9) hx hb dX12_shadowed_51 (by decide) ?_
        exact ih _ _ _ _ t_v0 hF _ _ hR hS _ (lv_sub hl [2, 1, 0] rfl)
      · have hF := xel hF c3
        refine lv_aload_n hx hb dX12_shadowed_26 rfl (lv_at hl 0 rfl) ?_
        refine lv_iload_n hx hb dX12_shadowed_27 rfl (lv_at hl 2 rfl) ?_
        obtain ⟨a5, h4, e_h4, hF⟩ := xbd2 hF
        refine cl_X12_331 C0 hR hS e_h4 t_v0 ⟨(Nat.le_of_ble_eq_true rfl), (Nat.le_of_ble_eq_true rfl)⟩ hl.1 (Nat.le_of_ble_eq_true rfl) ⟨(Nat.le_of_ble_eq_true rfl), (Nat.le_of_ble_eq_true rfl)⟩ dX12_shadowed_28 (fun H locs hR hS => ?_)
        refine lv_aload_n hx hb dX12_shadowed_31 rfl (lv_at hl 0 rfl) ?_
        refine gf_X12_185 C0 hR t_v0 dX12_shadowed_32 ?_
        refine lv_iand hx hb dX12_shadowed_35 ?_
        refine lv_iconst (v := (-1)) hx hb dX12_shadowed_36 (by decide) ?_
        refine lv_iload_n hx hb dX12_shadowed_37 rfl (lv_at hl 2 rfl) ?_
        refine lv_iconst (v := 1) hx hb dX12_shadowed_38 (by decide) ?_
        refine lv_iadd hx hb dX12_shadowed_39 ?_
        refine lv_ishl hx hb dX12_shadowed_40 ?_
        refine lv_iand hx hb dX12_shadowed_41 ?_
        refine lv_goto (tgt := 46) hx hb dX12_shadowed_42 (by decide) ?_
        refine lv_ior hx hb dX12_shadowed_46 ?_
        refine lv_istore_n (lv' := [(1, .int (v1 ||| ((a5 &&& (xI h4 v0 26)) &&& ((-1) <<< ((v2 + 1) &&& 31))))), (0, .ref v0), (2, .int v2)]) hx hb dX12_shadowed_47 rfl hl (by decide) rfl (fun ls hl => ?_)
        refine lv_iinc (v := v2 + 1) (lv' := [(2, .int (v2 + 1)), (1, .int (v1 ||| ((a5 &&& (xI h4 v0 26)) &&& ((-1) <<< ((v2 + 1) &&& 31))))), (0, .ref v0)]) hx hb dX12_shadowed_48 hl (k := 2) rfl rfl (by decide) rfl (fun ls hl => ?_)
        refine lv_goto (tgt := 9) hx hb dX12_shadowed_51 (by decide) ?_
        exact ih _ _ _ _ t_v0 hF _ _ hR hS _ (lv_sub hl [2, 1, 0] rfl)
set_option maxHeartbeats 4000000 in
set_option maxRecDepth 100000 in
theorem jc_X12_shadowed {l : Launch} {D : xD} {ty : xTy} {h : xH} {v0 : Nat} {r : Int32} {h9 : xH} (t_v0 : ty v0 = some (0, 12)) (hF : jf_X12_shadowed ty h v0 = some (r, h9)) : Met l yX12_shadowed (xws yX12_shadowed cX12_shadowed 3 (some .int)) jr_X12_shadowed (xPc D ty h [.ref v0]) (xQ D ty (some (.int r)) h9) 0 0 (xdom ty) := by
  refine x_met (by decide) ?_
  intro p e s m below meth c C0 hR
  generalize hargs : ([.ref v0] : List Value).toArray = args at C0 ⊢
  have hx := C0.1
  have hb := C0.2.1
  have hown := C0.2.2.2.2.2.1
  have hts := C0.2.2.2.2.2.2.1
  have hS : xS ty s.heap s.heap [] := xS.rf
  have hl := lv_entry ([.ref v0]) (n := 3) (Nat.le_of_ble_eq_true rfl)
  rw [← hargs, lg_entry_eq]
  rw [hargs]
  generalize (lg_sl ([.ref v0]) ++ List.replicate (3 - (lg_sl ([.ref v0])).length) Slot.unset).toArray = ls at hl ⊢
  have hl : lv_has ls 3 [(0, .ref v0)] := hl
  unfold jf_X12_shadowed at hF
  refine lv_aload_n hx hb dX12_shadowed_0 rfl (lv_at hl 0 rfl) ?_
  refine lv_iconst (v := 0) hx hb dX12_shadowed_1 (by decide) ?_
  obtain ⟨h6, e_h6, hF⟩ := xbd hF
  refine pf_X12_101 C0 hR hS t_v0 dX12_shadowed_2 (fun H locs hR hS => ?_)
  rw [Option.some.inj e_h6] at hR
  refine lv_iconst (v := 0) hx hb dX12_shadowed_5 (by decide) ?_
  refine lv_istore_n (lv' := [(1, .int 0), (0, .ref v0)]) hx hb dX12_shadowed_6 rfl hl (by decide) rfl (fun ls hl => ?_)
  refine lv_iconst (v := 0) hx hb dX12_shadowed_7 (by decide) ?_
  refine lv_istore_n (lv' := [(2, .int 0), (1, .int 0), (0, .ref v0)]) hx hb dX12_shadowed_8 rfl hl (by decide) rfl (fun ls hl => ?_)
  obtain ⟨_, hF⟩ := xlim_sp hF
  exact jw_X12_shadowed_9 C0 _ _ _ _ _ t_v0 hF _ _ hR hS _ (lv_sub hl [2, 1, 0] rfl)
theorem xm_X12_shadowed : xMw yX12_shadowed cX12_shadowed 3 (some .int) 0 := ⟨xin 1732 (by decide +kernel) rfl, xin 126 (by decide +kernel) rfl, by decide +kernel⟩
theorem xi_X12_shadowed : Cond.instanceMethod yX12_shadowed ∈ xT := xin 1730 (by decide +kernel) rfl
theorem xe_X12_shadowed : Cond.selects yX12_shadowed.cls yX12_shadowed yX12_shadowed ∈ xT := xin 1731 (by decide +kernel) rfl
theorem dX12_tops_0 : decode cX12_tops 0 = .ok (.aload_n 0, 1) := by decide +kernel
theorem dX12_tops_1 : decode cX12_tops 1 = .ok (.iconst 0, 1) := by decide +kernel
theorem dX12_tops_2 : decode cX12_tops 2 = .ok (.putfield 101, 3) := by decide +kernel
theorem dX12_tops_5 : decode cX12_tops 5 = .ok (.aload_n 0, 1) := by decide +kernel
theorem dX12_tops_6 : decode cX12_tops 6 = .ok (.getfield 185, 3) := by decide +kernel
theorem dX12_tops_9 : decode cX12_tops 9 = .ok (.istore_n 1, 1) := by decide +kernel
theorem dX12_tops_10 : decode cX12_tops 10 = .ok (.iconst 0, 1) := by decide +kernel
theorem dX12_tops_11 : decode cX12_tops 11 = .ok (.istore_n 2, 1) := by decide +kernel
theorem dX12_tops_12 : decode cX12_tops 12 = .ok (.iload_n 2, 1) := by decide +kernel
theorem dX12_tops_13 : decode cX12_tops 13 = .ok (.aload_n 0, 1) := by decide +kernel
theorem dX12_tops_14 : decode cX12_tops 14 = .ok (.getfield 178, 3) := by decide +kernel
theorem dX12_tops_17 : decode cX12_tops 17 = .ok (.if_icmp .ge 72, 3) := by decide +kernel
theorem dX12_tops_20 : decode cX12_tops 20 = .ok (.iconst 0, 1) := by decide +kernel
theorem dX12_tops_21 : decode cX12_tops 21 = .ok (.istore_n 3, 1) := by decide +kernel
theorem dX12_tops_22 : decode cX12_tops 22 = .ok (.iload_n 3, 1) := by decide +kernel
theorem dX12_tops_23 : decode cX12_tops 23 = .ok (.aload_n 0, 1) := by decide +kernel
theorem dX12_tops_24 : decode cX12_tops 24 = .ok (.getfield 178, 3) := by decide +kernel
theorem dX12_tops_27 : decode cX12_tops 27 = .ok (.if_icmp .ge 56, 3) := by decide +kernel
theorem dX12_tops_30 : decode cX12_tops 30 = .ok (.aload_n 0, 1) := by decide +kernel
theorem dX12_tops_31 : decode cX12_tops 31 = .ok (.iload_n 2, 1) := by decide +kernel
theorem dX12_tops_32 : decode cX12_tops 32 = .ok (.invokevirtual 285, 3) := by decide +kernel
theorem dX12_tops_35 : decode cX12_tops 35 = .ok (.ifCond .eq 48, 3) := by decide +kernel
theorem dX12_tops_38 : decode cX12_tops 38 = .ok (.iload_n 3, 1) := by decide +kernel
theorem dX12_tops_39 : decode cX12_tops 39 = .ok (.iload_n 2, 1) := by decide +kernel
theorem dX12_tops_40 : decode cX12_tops 40 = .ok (.if_icmp .eq 37, 3) := by decide +kernel
theorem dX12_tops_43 : decode cX12_tops 43 = .ok (.aload_n 0, 1) := by decide +kernel
theorem dX12_tops_44 : decode cX12_tops 44 = .ok (.iload_n 3, 1) := by decide +kernel
theorem dX12_tops_45 : decode cX12_tops 45 = .ok (.invokevirtual 285, 3) := by decide +kernel
theorem dX12_tops_48 : decode cX12_tops 48 = .ok (.ifCond .eq 29, 3) := by decide +kernel
theorem dX12_tops_51 : decode cX12_tops 51 = .ok (.aload_n 0, 1) := by decide +kernel
theorem dX12_tops_52 : decode cX12_tops 52 = .ok (.iload_n 3, 1) := by decide +kernel
theorem dX12_tops_53 : decode cX12_tops 53 = .ok (.iload_n 2, 1) := by decide +kernel
theorem dX12_tops_54 : decode cX12_tops 54 = .ok (.invokevirtual 337, 3) := by decide +kernel
theorem dX12_tops_57 : decode cX12_tops 57 = .ok (.ifCond .eq 20, 3) := by decide +kernel
theorem dX12_tops_60 : decode cX12_tops 60 = .ok (.aload_n 0, 1) := by decide +kernel
theorem dX12_tops_61 : decode cX12_tops 61 = .ok (.iload_n 2, 1) := by decide +kernel
theorem dX12_tops_62 : decode cX12_tops 62 = .ok (.iload_n 3, 1) := by decide +kernel
theorem dX12_tops_63 : decode cX12_tops 63 = .ok (.invokevirtual 337, 3) := by decide +kernel
theorem dX12_tops_66 : decode cX12_tops 66 = .ok (.ifCond .ne 11, 3) := by decide +kernel
theorem dX12_tops_69 : decode cX12_tops 69 = .ok (.iload_n 1, 1) := by decide +kernel
theorem dX12_tops_70 : decode cX12_tops 70 = .ok (.iconst 1, 1) := by decide +kernel
theorem dX12_tops_71 : decode cX12_tops 71 = .ok (.iload_n 2, 1) := by decide +kernel
theorem dX12_tops_72 : decode cX12_tops 72 = .ok (.ishl, 1) := by decide +kernel
theorem dX12_tops_73 : decode cX12_tops 73 = .ok (.iconst (-1), 1) := by decide +kernel
theorem dX12_tops_74 : decode cX12_tops 74 = .ok (.ixor, 1) := by decide +kernel
theorem dX12_tops_75 : decode cX12_tops 75 = .ok (.iand, 1) := by decide +kernel
theorem dX12_tops_76 : decode cX12_tops 76 = .ok (.istore_n 1, 1) := by decide +kernel
theorem dX12_tops_77 : decode cX12_tops 77 = .ok (.iinc 3 1, 3) := by decide +kernel
theorem dX12_tops_80 : decode cX12_tops 80 = .ok (.goto (-58), 3) := by decide +kernel
theorem dX12_tops_83 : decode cX12_tops 83 = .ok (.iinc 2 1, 3) := by decide +kernel
theorem dX12_tops_86 : decode cX12_tops 86 = .ok (.goto (-74), 3) := by decide +kernel
theorem dX12_tops_89 : decode cX12_tops 89 = .ok (.iload_n 1, 1) := by decide +kernel
theorem dX12_tops_90 : decode cX12_tops 90 = .ok (.ireturn, 1) := by decide +kernel
set_option maxHeartbeats 4000000 in
set_option maxRecDepth 100000 in
theorem jw_X12_tops_22 {p : Program} {l : Launch} {e : Env} {s : State} {m : MethodId} {args : Array Value} {below : List Frame} {meth : Method} {c : Code} {D : xD} {ty : xTy} {k12 : Nat → Int32 → Int32 → xH → Option (Int32 × xH)} (C0 : xC D RX12 cX12_tops 4 (some .int) p s m args meth c) {r : Int32} {h9 : xH} (hk12 : ∀ (v0 : Nat) (v1 : Int32) (v2 : Int32) (h : xH), ty v0 = some (0, 12) → k12 v0 v1 v2 h = some (r, h9) → ∀ (H : Heap) (locs : List Loc), xRep D ty h H → xS ty s.heap H locs → ∀ ls : Array Slot, lv_has ls 4 [(0, .ref v0), (1, .int v1), (2, .int v2)] → W p l e jr_X12_tops s m args below meth c H locs 0 0 (MQ below (xQ D ty (some (.int r)) h9) args s 0 0 (xdom ty)) (F0 m 12 ls [])) : ∀ n : Nat, ∀ (v0 : Nat) (v1 : Int32) (v2 : Int32) (v3 : Int32) (h : xH), ty v0 = some (0, 12) → jf_X12_tops_22 ty k12 n v0 v1 v2 v3 h = some (r, h9) → ∀ (H : Heap) (locs : List Loc), xRep D ty h H → xS ty s.heap H locs → ∀ ls : Array Slot, lv_has ls 4 [(0, .ref v0), (1, .int v1), (2, .int v2), (3, .int v3)] → W p l e jr_X12_tops s m args below meth c H locs 0 0 (MQ below (xQ D ty (some (.int r)) h9) args s 0 0 (xdom ty)) (F0 m 22 ls []) := by
  have hx := C0.1
  have hb := C0.2.1
  have hown := C0.2.2.2.2.2.1
  have hts := C0.2.2.2.2.2.2.1
  intro n
  induction n with
  | zero =>
    intro v0 v1 v2 v3 h t_v0 hF H locs hR hS ls hl
    cases hF
  | succ n ih =>
    intro v0 v1 v2 v3 h t_v0 hF H locs hR hS ls hl
    rw [jf_X12_tops_22_s] at hF
    refine lv_iload_n hx hb dX12_tops_22 rfl (lv_at hl 3 rfl) ?_
    refine lv_aload_n hx hb dX12_tops_23 rfl (lv_at hl 0 rfl) ?_
    refine gf_X12_178 C0 hR t_v0 dX12_tops_24 ?_
    refine lv_icmp_ge (tgt := 83) hx hb dX12_tops_27 (by decide) (fun c1 => ?_) (fun c1 => ?_)
    · have hF := xif hF c1
      refine lv_iinc (v := v2 + 1) (lv' := [(2, .int (v2 + 1)), (0, .ref v0), (1, .int v1), (3, .int v3)]) hx hb dX12_tops_83 hl (k := 2) rfl rfl (by decide) rfl (fun ls hl => ?_)
      refine lv_goto (tgt := 12) hx hb dX12_tops_86 (by decide) ?_
      exact hk12 _ _ _ _ t_v0 hF _ _ hR hS _ (lv_sub hl [1, 2, 0] rfl)
    · have hF := xel hF c1
      refine lv_aload_n hx hb dX12_tops_30 rfl (lv_at hl 0 rfl) ?_
      refine lv_iload_n hx hb dX12_tops_31 rfl (lv_at hl 2 rfl) ?_
      obtain ⟨a2, e_a2, hF⟩ := xbd hF
      refine cl_X12_285 C0 hR hS e_a2 t_v0 ⟨(Nat.le_of_ble_eq_true rfl), (Nat.le_of_ble_eq_true rfl)⟩ hl.1 (Nat.le_of_ble_eq_true rfl) ⟨(Nat.le_of_ble_eq_true rfl), (Nat.le_of_ble_eq_true rfl)⟩ dX12_tops_32 (fun H locs hR hS => ?_)
      refine lv_if_eq (tgt := 83) hx hb dX12_tops_35 (by decide) (fun c3 => ?_) (fun c3 => ?_)
      · have hF := xif hF c3
        refine lv_iinc (v := v2 + 1) (lv' := [(2, .int (v2 + 1)), (0, .ref v0), (1, .int v1), (3, .int v3)]) hx hb dX12_tops_83 hl (k := 2) rfl rfl (by decide) rfl (fun ls hl => ?_)
        refine lv_goto (tgt := 12) hx hb dX12_tops_86 (by decide) ?_
        exact hk12 _ _ _ _ t_v0 hF _ _ hR hS _ (lv_sub hl [1, 2, 0] rfl)
      · have hF := xel hF c3
        refine lv_iload_n hx hb dX12_tops_38 rfl (lv_at hl 3 rfl) ?_
        refine lv_iload_n hx hb dX12_tops_39 rfl (lv_at hl 2 rfl) ?_
        refine lv_icmp_eq (tgt := 77) hx hb dX12_tops_40 (by decide) (fun c4 => ?_) (fun c4 => ?_)
        · have hF := xif hF c4
          refine lv_iinc (v := v3 + 1) (lv' := [(3, .int (v3 + 1)), (0, .ref v0), (1, .int v1), (2, .int v2)]) hx hb dX12_tops_77 hl (k := 3) rfl rfl (by decide) rfl (fun ls hl => ?_)
          refine lv_goto (tgt := 22) hx hb dX12_tops_80 (by decide) ?_
          exact ih _ _ _ _ _ t_v0 hF _ _ hR hS _ (lv_sub hl [1, 2, 3, 0] rfl)
        · have hF := xel hF c4
          refine lv_aload_n hx hb dX12_tops_43 rfl (lv_at hl 0 rfl) ?_
          refine lv_iload_n hx hb dX12_tops_44 rfl (lv_at hl 3 rfl) ?_
          obtain ⟨a5, e_a5, hF⟩ := xbd hF
          refine cl_X12_285 C0 hR hS e_a5 t_v0 ⟨(Nat.le_of_ble_eq_true rfl), (Nat.le_of_ble_eq_true rfl)⟩ hl.1 (Nat.le_of_ble_eq_true rfl) ⟨(Nat.le_of_ble_eq_true rfl), (Nat.le_of_ble_eq_true rfl)⟩ dX12_tops_45 (fun H locs hR hS => ?_)
          refine lv_if_eq (tgt := 77) hx hb dX12_tops_48 (by decide) (fun c6 => ?_) (fun c6 => ?_)
          · have hF := xif hF c6
            refine lv_iinc (v := v3 + 1) (lv' := [(3, .int (v3 + 1)), (0, .ref v0), (1, .int v1), (2, .int v2)]) hx hb dX12_tops_77 hl (k := 3) rfl rfl (by decide) rfl (fun ls hl => ?_)
            refine lv_goto (tgt := 22) hx hb dX12_tops_80 (by decide) ?_
            exact ih _ _ _ _ _ t_v0 hF _ _ hR hS _ (lv_sub hl [1, 2, 3, 0] rfl)
          · have hF := xel hF c6
            refine lv_aload_n hx hb dX12_tops_51 rfl (lv_at hl 0 rfl) ?_
            refine lv_iload_n hx hb dX12_tops_52 rfl (lv_at hl 3 rfl) ?_
            refine lv_iload_n hx hb dX12_tops_53 rfl (lv_at hl 2 rfl) ?_
            obtain ⟨a8, h7, e_h7, hF⟩ := xbd2 hF
            refine cl_X12_337 C0 hR hS e_h7 t_v0 ⟨(Nat.le_of_ble_eq_true rfl), (Nat.le_of_ble_eq_true rfl)⟩ hl.1 (Nat.le_of_ble_eq_true rfl) ⟨(Nat.le_of_ble_eq_true rfl), (Nat.le_of_ble_eq_true rfl)⟩ dX12_tops_54 (fun H locs hR hS => ?_)
            refine lv_if_eq (tgt := 77) hx hb dX12_tops_57 (by decide) (fun c9 => ?_) (fun c9 => ?_)
            · have hF := xif hF c9
              refine lv_iinc (v := v3 + 1) (lv' := [(3, .int (v3 + 1)), (0, .ref v0), (1, .int v1), (2, .int v2)]) hx hb dX12_tops_77 hl (k := 3) rfl rfl (by decide) rfl (fun ls hl => ?_)
              refine lv_goto (tgt := 22) hx hb dX12_tops_80 (by decide) ?_
              exact ih _ _ _ _ _ t_v0 hF _ _ hR hS _ (lv_sub hl [1, 2, 3, 0] rfl)
            · have hF := xel hF c9
              refine lv_aload_n hx hb dX12_tops_60 rfl (lv_at hl 0 rfl) ?_
              refine lv_iload_n hx hb dX12_tops_61 rfl (lv_at hl 2 rfl) ?_
              refine lv_iload_n hx hb dX12_tops_62 rfl (lv_at hl 3 rfl) ?_
              obtain ⟨a11, h10, e_h10, hF⟩ := xbd2 hF
              refine cl_X12_337 C0 hR hS e_h10 t_v0 ⟨(Nat.le_of_ble_eq_true rfl), (Nat.le_of_ble_eq_true rfl)⟩ hl.1 (Nat.le_of_ble_eq_true rfl) ⟨(Nat.le_of_ble_eq_true rfl), (Nat.le_of_ble_eq_true rfl)⟩ dX12_tops_63 (fun H locs hR hS => ?_)
              refine lv_if_ne (tgt := 77) hx hb dX12_tops_66 (by decide) (fun c12 => ?_) (fun c12 => ?_)
              · have hF := xel hF c12
                refine lv_iinc (v := v3 + 1) (lv' := [(3, .int (v3 + 1)), (0, .ref v0), (1, .int v1), (2, .int v2)]) hx hb dX12_tops_77 hl (k := 3) rfl rfl (by decide) rfl (fun ls hl => ?_)
                refine lv_goto (tgt := 22) hx hb dX12_tops_80 (by decide) ?_
                exact ih _ _ _ _ _ t_v0 hF _ _ hR hS _ (lv_sub hl [1, 2, 3, 0] rfl)
              · have hF := xif hF c12
                refine lv_iload_n hx hb dX12_tops_69 rfl (lv_at hl 1 rfl) ?_
                refine lv_iconst (v := 1) hx hb dX12_tops_70 (by decide) ?_
                refine lv_iload_n hx hb dX12_tops_71 rfl (lv_at hl 2 rfl) ?_
                refine lv_ishl hx hb dX12_tops_72 ?_
                refine lv_iconst (v := (-1)) hx hb dX12_tops_73 (by decide) ?_
                refine lv_ixor hx hb dX12_tops_74 ?_
                refine lv_iand hx hb dX12_tops_75 ?_
                refine lv_istore_n (lv' := [(1, .int (v1 &&& ((1 <<< (v2 &&& 31)) ^^^ (-1)))), (0, .ref v0), (2, .int v2), (3, .int v3)]) hx hb dX12_tops_76 rfl hl (by decide) rfl (fun ls hl => ?_)
                refine lv_iinc (v := v3 + 1) (lv' := [(3, .int (v3 + 1)), (1, .int (v1 &&& ((1 <<< (v2 &&& 31)) ^^^ (-1)))), (0, .ref v0), (2, .int v2)]) hx hb dX12_tops_77 hl (k := 3) rfl rfl (by decide) rfl (fun ls hl => ?_)
                refine lv_goto (tgt := 22) hx hb dX12_tops_80 (by decide) ?_
                exact ih _ _ _ _ _ t_v0 hF _ _ hR hS _ (lv_sub hl [2, 1, 3, 0] rfl)
set_option maxHeartbeats 4000000 in
set_option maxRecDepth 100000 in
theorem jw_X12_tops_12 {p : Program} {l : Launch} {e : Env} {s : State} {m : MethodId} {args : Array Value} {below : List Frame} {meth : Method} {c : Code} {D : xD} {ty : xTy} (C0 : xC D RX12 cX12_tops 4 (some .int) p s m args meth c) {r : Int32} {h9 : xH} : ∀ n : Nat, ∀ (v0 : Nat) (v1 : Int32) (v2 : Int32) (h : xH), ty v0 = some (0, 12) → jf_X12_tops_12 ty n v0 v1 v2 h = some (r, h9) → ∀ (H : Heap) (locs : List Loc), xRep D ty h H → xS ty s.heap H locs → ∀ ls : Array Slot, lv_has ls 4 [(0, .ref v0), (1, .int v1), (2, .int v2)] → W p l e jr_X12_tops s m args below meth c H locs 0 0 (MQ below (xQ D ty (some (.int r)) h9) args s 0 0 (xdom ty)) (F0 m 12 ls []) := by
  have hx := C0.1
  have hb := C0.2.1
  have hown := C0.2.2.2.2.2.1
  have hts := C0.2.2.2.2.2.2.1
  intro n
  induction n with
  | zero =>
    intro v0 v1 v2 h t_v0 hF H locs hR hS ls hl
    cases hF
  | succ n ih =>
    intro v0 v1 v2 h t_v0 hF H locs hR hS ls hl
    rw [jf_X12_tops_12_s] at hF
    refine lv_iload_n hx hb dX12_tops_12 rfl (lv_at hl 2 rfl) ?_
    refine lv_aload_n hx hb dX12_tops_13 rfl (lv_at hl 0 rfl) ?_
    refine gf_X12_178 C0 hR t_v0 dX12_tops_14 ?_
    refine lv_icmp_ge (tgt := 89) hx hb dX12_tops_17 (by decide) (fun c13 => ?_) (fun c13 => ?_)
    · have hF := xif hF c13
      refine lv_iload_n hx hb dX12_tops_89 rfl (lv_at hl 1 rfl) ?_
      cases hF
      exact x_iret C0 hR hS dX12_tops_90
    · have hF := xel hF c13
      refine lv_iconst (v := 0) hx hb dX12_tops_20 (by decide) ?_
      refine lv_istore_n (lv' := [(3, .int 0), (0, .ref v0), (1, .int v1), (2, .int v2)]) hx hb dX12_tops_21 rfl hl (by decide) rfl (fun ls hl => ?_)
      obtain ⟨_, hF⟩ := xlim_sp hF
      exact jw_X12_tops_22 C0 ih _ _ _ _ _ _ t_v0 hF _ _ hR hS _ (lv_sub hl [1, 2, 3, 0] rfl)
set_option maxHeartbeats 4000000 in
set_option maxRecDepth 100000 in
theorem jc_X12_tops {l : Launch} {D : xD} {ty : xTy} {h : xH} {v0 : Nat} {r : Int32} {h9 : xH} (t_v0 : ty v0 = some (0, 12)) (hF : jf_X12_tops ty h v0 = some (r, h9)) : Met l yX12_tops (xws yX12_tops cX12_tops 4 (some .int)) jr_X12_tops (xPc D ty h [.ref v0]) (xQ D ty (some (.int r)) h9) 0 0 (xdom ty) := by
  refine x_met (by decide) ?_
  intro p e s m below meth c C0 hR
  generalize hargs : ([.ref v0] : List Value).toArray = args at C0 ⊢
  have hx := C0.1
  have hb := C0.2.1
  have hown := C0.2.2.2.2.2.1
  have hts := C0.2.2.2.2.2.2.1
  have hS : xS ty s.heap s.heap [] := xS.rf
  have hl := lv_entry ([.ref v0]) (n := 4) (Nat.le_of_ble_eq_true rfl)
  rw [← hargs, lg_entry_eq]
  rw [hargs]
  generalize (lg_sl ([.ref v0]) ++ List.replicate (4 - (lg_sl ([.ref v0])).length) Slot.unset).toArray = ls at hl ⊢
  have hl : lv_has ls 4 [(0, .ref v0)] := hl
  unfold jf_X12_tops at hF
  refine lv_aload_n hx hb dX12_tops_0 rfl (lv_at hl 0 rfl) ?_
  refine lv_iconst (v := 0) hx hb dX12_tops_1 (by decide) ?_
  obtain ⟨h14, e_h14, hF⟩ := xbd hF
  refine pf_X12_101 C0 hR hS t_v0 dX12_tops_2 (fun H locs hR hS => ?_)
  rw [Option.some.inj e_h14] at hR
  refine lv_aload_n hx hb dX12_tops_5 rfl (lv_at hl 0 rfl) ?_
  refine gf_X12_185 C0 hR t_v0 dX12_tops_6 ?_
  refine lv_istore_n (lv' := [(1, .int (xI h14 v0 26)), (0, .ref v0)]) hx hb dX12_tops_9 rfl hl (by decide) rfl (fun ls hl => ?_)
  refine lv_iconst (v := 0) hx hb dX12_tops_10 (by decide) ?_
  refine lv_istore_n (lv' := [(2, .int 0), (1, .int (xI h14 v0 26)), (0, .ref v0)]) hx hb dX12_tops_11 rfl hl (by decide) rfl (fun ls hl => ?_)
  obtain ⟨_, hF⟩ := xlim_sp hF
  exact jw_X12_tops_12 C0 _ _ _ _ _ t_v0 hF _ _ hR hS _ (lv_sub hl [2, 1, 0] rfl)
theorem xm_X12_tops : xMw yX12_tops cX12_tops 4 (some .int) 0 := ⟨xin 1736 (by decide +kernel) rfl, xin 126 (by decide +kernel) rfl, by decide +kernel⟩
theorem xi_X12_tops : Cond.instanceMethod yX12_tops ∈ xT := xin 1734 (by decide +kernel) rfl
theorem xe_X12_tops : Cond.selects yX12_tops.cls yX12_tops yX12_tops ∈ xT := xin 1735 (by decide +kernel) rfl
theorem dX12_joined_0 : decode cX12_joined 0 = .ok (.aload_n 0, 1) := by decide +kernel
theorem dX12_joined_1 : decode cX12_joined 1 = .ok (.iconst 0, 1) := by decide +kernel
theorem dX12_joined_2 : decode cX12_joined 2 = .ok (.putfield 101, 3) := by decide +kernel
theorem dX12_joined_5 : decode cX12_joined 5 = .ok (.aload_n 0, 1) := by decide +kernel
theorem dX12_joined_6 : decode cX12_joined 6 = .ok (.iload_n 1, 1) := by decide +kernel
theorem dX12_joined_7 : decode cX12_joined 7 = .ok (.invokevirtual 282, 3) := by decide +kernel
theorem dX12_joined_10 : decode cX12_joined 10 = .ok (.ifCond .eq 15, 3) := by decide +kernel
theorem dX12_joined_13 : decode cX12_joined 13 = .ok (.aload_n 0, 1) := by decide +kernel
theorem dX12_joined_14 : decode cX12_joined 14 = .ok (.iload_n 2, 1) := by decide +kernel
theorem dX12_joined_15 : decode cX12_joined 15 = .ok (.invokevirtual 282, 3) := by decide +kernel
theorem dX12_joined_18 : decode cX12_joined 18 = .ok (.ifCond .eq 7, 3) := by decide +kernel
theorem dX12_joined_21 : decode cX12_joined 21 = .ok (.iload_n 3, 1) := by decide +kernel
theorem dX12_joined_22 : decode cX12_joined 22 = .ok (.ifCond .ge 5, 3) := by decide +kernel
theorem dX12_joined_25 : decode cX12_joined 25 = .ok (.iconst (-1), 1) := by decide +kernel
theorem dX12_joined_26 : decode cX12_joined 26 = .ok (.ireturn, 1) := by decide +kernel
theorem dX12_joined_27 : decode cX12_joined 27 = .ok (.aload_n 0, 1) := by decide +kernel
theorem dX12_joined_28 : decode cX12_joined 28 = .ok (.invokevirtual 263, 3) := by decide +kernel
theorem dX12_joined_31 : decode cX12_joined 31 = .ok (.aload_n 0, 1) := by decide +kernel
theorem dX12_joined_32 : decode cX12_joined 32 = .ok (.iload_n 1, 1) := by decide +kernel
theorem dX12_joined_33 : decode cX12_joined 33 = .ok (.iconst 4, 1) := by decide +kernel
theorem dX12_joined_34 : decode cX12_joined 34 = .ok (.invokevirtual 270, 3) := by decide +kernel
theorem dX12_joined_37 : decode cX12_joined 37 = .ok (.istore 4, 2) := by decide +kernel
theorem dX12_joined_39 : decode cX12_joined 39 = .ok (.aload_n 0, 1) := by decide +kernel
theorem dX12_joined_40 : decode cX12_joined 40 = .ok (.iload_n 2, 1) := by decide +kernel
theorem dX12_joined_41 : decode cX12_joined 41 = .ok (.bipush 8, 2) := by decide +kernel
theorem dX12_joined_43 : decode cX12_joined 43 = .ok (.invokevirtual 270, 3) := by decide +kernel
theorem dX12_joined_46 : decode cX12_joined 46 = .ok (.istore 5, 2) := by decide +kernel
theorem dX12_joined_48 : decode cX12_joined 48 = .ok (.aload_n 0, 1) := by decide +kernel
theorem dX12_joined_49 : decode cX12_joined 49 = .ok (.iload 4, 2) := by decide +kernel
theorem dX12_joined_51 : decode cX12_joined 51 = .ok (.invokevirtual 241, 3) := by decide +kernel
theorem dX12_joined_54 : decode cX12_joined 54 = .ok (.istore 6, 2) := by decide +kernel
theorem dX12_joined_56 : decode cX12_joined 56 = .ok (.iconst 0, 1) := by decide +kernel
theorem dX12_joined_57 : decode cX12_joined 57 = .ok (.istore 7, 2) := by decide +kernel
theorem dX12_joined_59 : decode cX12_joined 59 = .ok (.iconst 0, 1) := by decide +kernel
theorem dX12_joined_60 : decode cX12_joined 60 = .ok (.istore 8, 2) := by decide +kernel
theorem dX12_joined_62 : decode cX12_joined 62 = .ok (.iload 4, 2) := by decide +kernel
theorem dX12_joined_64 : decode cX12_joined 64 = .ok (.iload 6, 2) := by decide +kernel
theorem dX12_joined_66 : decode cX12_joined 66 = .ok (.if_icmp .ge 162, 3) := by decide +kernel
theorem dX12_joined_69 : decode cX12_joined 69 = .ok (.aload_n 0, 1) := by decide +kernel
theorem dX12_joined_70 : decode cX12_joined 70 = .ok (.getfield 53, 3) := by decide +kernel
theorem dX12_joined_73 : decode cX12_joined 73 = .ok (.iload 4, 2) := by decide +kernel
theorem dX12_joined_75 : decode cX12_joined 75 = .ok (.iaload, 1) := by decide +kernel
theorem dX12_joined_76 : decode cX12_joined 76 = .ok (.istore 9, 2) := by decide +kernel
theorem dX12_joined_78 : decode cX12_joined 78 = .ok (.iload 9, 2) := by decide +kernel
theorem dX12_joined_80 : decode cX12_joined 80 = .ok (.bipush 100, 2) := by decide +kernel
theorem dX12_joined_82 : decode cX12_joined 82 = .ok (.if_icmp .ge 24, 3) := by decide +kernel
theorem dX12_joined_85 : decode cX12_joined 85 = .ok (.iload 9, 2) := by decide +kernel
theorem dX12_joined_87 : decode cX12_joined 87 = .ok (.aload_n 0, 1) := by decide +kernel
theorem dX12_joined_88 : decode cX12_joined 88 = .ok (.getfield 53, 3) := by decide +kernel
theorem dX12_joined_91 : decode cX12_joined 91 = .ok (.iload 5, 2) := by decide +kernel
theorem dX12_joined_93 : decode cX12_joined 93 = .ok (.iaload, 1) := by decide +kernel
theorem dX12_joined_94 : decode cX12_joined 94 = .ok (.if_icmp .ne 12, 3) := by decide +kernel
theorem dX12_joined_97 : decode cX12_joined 97 = .ok (.iinc 4 1, 3) := by decide +kernel
theorem dX12_joined_100 : decode cX12_joined 100 = .ok (.iinc 5 1, 3) := by decide +kernel
theorem dX12_joined_103 : decode cX12_joined 103 = .ok (.goto 110, 3) := by decide +kernel
theorem dX12_joined_106 : decode cX12_joined 106 = .ok (.iconst 0, 1) := by decide +kernel
theorem dX12_joined_107 : decode cX12_joined 107 = .ok (.istore 10, 2) := by decide +kernel
theorem dX12_joined_109 : decode cX12_joined 109 = .ok (.iload 10, 2) := by decide +kernel
theorem dX12_joined_111 : decode cX12_joined 111 = .ok (.iload 8, 2) := by decide +kernel
theorem dX12_joined_113 : decode cX12_joined 113 = .ok (.if_icmp .ge 41, 3) := by decide +kernel
theorem dX12_joined_116 : decode cX12_joined 116 = .ok (.aload_n 0, 1) := by decide +kernel
theorem dX12_joined_117 : decode cX12_joined 117 = .ok (.aload_n 0, 1) := by decide +kernel
theorem dX12_joined_118 : decode cX12_joined 118 = .ok (.getfield 77, 3) := by decide +kernel
theorem dX12_joined_121 : decode cX12_joined 121 = .ok (.iload 10, 2) := by decide +kernel
theorem dX12_joined_123 : decode cX12_joined 123 = .ok (.iaload, 1) := by decide +kernel
theorem dX12_joined_124 : decode cX12_joined 124 = .ok (.iload 4, 2) := by decide +kernel
theorem dX12_joined_126 : decode cX12_joined 126 = .ok (.invokevirtual 245, 3) := by decide +kernel
theorem dX12_joined_129 : decode cX12_joined 129 = .ok (.ifCond .eq 19, 3) := by decide +kernel
theorem dX12_joined_132 : decode cX12_joined 132 = .ok (.aload_n 0, 1) := by decide +kernel
theorem dX12_joined_133 : decode cX12_joined 133 = .ok (.aload_n 0, 1) := by decide +kernel
theorem dX12_joined_134 : decode cX12_joined 134 = .ok (.getfield 80, 3) := by decide +kernel
theorem dX12_joined_137 : decode cX12_joined 137 = .ok (.iload 10, 2) := by decide +kernel
theorem dX12_joined_139 : decode cX12_joined 139 = .ok (.iaload, 1) := by decide +kernel
theorem dX12_joined_140 : decode cX12_joined 140 = .ok (.iload 5, 2) := by decide +kernel
theorem dX12_joined_142 : decode cX12_joined 142 = .ok (.invokevirtual 245, 3) := by decide +kernel
theorem dX12_joined_145 : decode cX12_joined 145 = .ok (.ifCond .ne 9, 3) := by decide +kernel
theorem dX12_joined_148 : decode cX12_joined 148 = .ok (.iinc 10 1, 3) := by decide +kernel
theorem dX12_joined_151 : decode cX12_joined 151 = .ok (.goto (-42), 3) := by decide +kernel
theorem dX12_joined_154 : decode cX12_joined 154 = .ok (.aload_n 0, 1) := by decide +kernel
theorem dX12_joined_155 : decode cX12_joined 155 = .ok (.getfield 77, 3) := by decide +kernel
theorem dX12_joined_158 : decode cX12_joined 158 = .ok (.iload 10, 2) := by decide +kernel
theorem dX12_joined_160 : decode cX12_joined 160 = .ok (.iload 4, 2) := by decide +kernel
theorem dX12_joined_162 : decode cX12_joined 162 = .ok (.iastore, 1) := by decide +kernel
theorem dX12_joined_163 : decode cX12_joined 163 = .ok (.aload_n 0, 1) := by decide +kernel
theorem dX12_joined_164 : decode cX12_joined 164 = .ok (.getfield 80, 3) := by decide +kernel
theorem dX12_joined_167 : decode cX12_joined 167 = .ok (.iload 10, 2) := by decide +kernel
theorem dX12_joined_169 : decode cX12_joined 169 = .ok (.iload 5, 2) := by decide +kernel
theorem dX12_joined_171 : decode cX12_joined 171 = .ok (.iastore, 1) := by decide +kernel
theorem dX12_joined_172 : decode cX12_joined 172 = .ok (.iload 10, 2) := by decide +kernel
theorem dX12_joined_174 : decode cX12_joined 174 = .ok (.iload 8, 2) := by decide +kernel
theorem dX12_joined_176 : decode cX12_joined 176 = .ok (.if_icmp .ne 10, 3) := by decide +kernel
theorem dX12_joined_179 : decode cX12_joined 179 = .ok (.iload 8, 2) := by decide +kernel
theorem dX12_joined_181 : decode cX12_joined 181 = .ok (.iconst 1, 1) := by decide +kernel
theorem dX12_joined_182 : decode cX12_joined 182 = .ok (.iadd, 1) := by decide +kernel
theorem dX12_joined_183 : decode cX12_joined 183 = .ok (.goto 5, 3) := by decide +kernel
theorem dX12_joined_186 : decode cX12_joined 186 = .ok (.iload 8, 2) := by decide +kernel
theorem dX12_joined_188 : decode cX12_joined 188 = .ok (.istore 8, 2) := by decide +kernel
theorem dX12_joined_190 : decode cX12_joined 190 = .ok (.bipush 100, 2) := by decide +kernel
theorem dX12_joined_192 : decode cX12_joined 192 = .ok (.iload 10, 2) := by decide +kernel
theorem dX12_joined_194 : decode cX12_joined 194 = .ok (.iadd, 1) := by decide +kernel
theorem dX12_joined_195 : decode cX12_joined 195 = .ok (.istore 9, 2) := by decide +kernel
theorem dX12_joined_197 : decode cX12_joined 197 = .ok (.aload_n 0, 1) := by decide +kernel
theorem dX12_joined_198 : decode cX12_joined 198 = .ok (.iload 4, 2) := by decide +kernel
theorem dX12_joined_200 : decode cX12_joined 200 = .ok (.invokevirtual 241, 3) := by decide +kernel
theorem dX12_joined_203 : decode cX12_joined 203 = .ok (.istore 4, 2) := by decide +kernel
theorem dX12_joined_205 : decode cX12_joined 205 = .ok (.aload_n 0, 1) := by decide +kernel
theorem dX12_joined_206 : decode cX12_joined 206 = .ok (.iload 5, 2) := by decide +kernel
theorem dX12_joined_208 : decode cX12_joined 208 = .ok (.invokevirtual 241, 3) := by decide +kernel
theorem dX12_joined_211 : decode cX12_joined 211 = .ok (.istore 5, 2) := by decide +kernel
theorem dX12_joined_213 : decode cX12_joined 213 = .ok (.iload 7, 2) := by decide +kernel
theorem dX12_joined_215 : decode cX12_joined 215 = .ok (.iload_n 3, 1) := by decide +kernel
theorem dX12_joined_216 : decode cX12_joined 216 = .ok (.if_icmp .ne 6, 3) := by decide +kernel
theorem dX12_joined_219 : decode cX12_joined 219 = .ok (.iload 9, 2) := by decide +kernel
theorem dX12_joined_221 : decode cX12_joined 221 = .ok (.ireturn, 1) := by decide +kernel
theorem dX12_joined_222 : decode cX12_joined 222 = .ok (.iinc 7 1, 3) := by decide +kernel
theorem dX12_joined_225 : decode cX12_joined 225 = .ok (.goto (-163), 3) := by decide +kernel
theorem dX12_joined_228 : decode cX12_joined 228 = .ok (.bipush (-2), 2) := by decide +kernel
theorem dX12_joined_230 : decode cX12_joined 230 = .ok (.ireturn, 1) := by decide +kernel
theorem wf_X12_77 : Cond.fieldLink RX12 77 "TermShelfModel" "partA" "[I" ∈ xT := xin 1358 (by decide +kernel) rfl
theorem wf_X12_80 : Cond.fieldLink RX12 80 "TermShelfModel" "partB" "[I" ∈ xT := xin 1359 (by decide +kernel) rfl
section XN_X12_joined
variable {p : Program} {l : Launch} {e : Env} {R : Room} {s : State} {m : MethodId} {args : Array Value} {below : List Frame} {meth : Method} {c : Code} {H H0 : Heap} {locs : List Loc} {cells slots : Nat} {Q : State → Prop} {cc : ByteArray} {nL pc : Nat} {rt : Option FieldType} {ls : Array Slot} {rest : List Value} {D : xD} {ty : xTy} {h : xH}
theorem gf_X12_77 {a : Nat} (C0 : xC D RX12 cc nL rt p s m args meth c) (hR : xRep D ty h H) (ht : ty a = some (0, 12)) {v : Nat} (hv : xR h a 46 = some v) (hdg : decode cc pc = .ok (.getfield 77, 3)) (kk : W p l e R s m args below meth c H locs cells slots Q (F0 m (pc + 3) ls (.ref v :: rest))) : W p l e R s m args below meth c H locs cells slots Q (F0 m pc ls (.ref a :: rest)) := x_get C0 hR (ci := 12) (k := 46) (N := 60) (T := TX12) rfl iX12 (by decide) rfl wf_X12_77 (by show va_rf (xR h a 46) = _; rw [hv]; rfl) ht hdg kk
theorem gf_X12_80 {a : Nat} (C0 : xC D RX12 cc nL rt p s m args meth c) (hR : xRep D ty h H) (ht : ty a = some (0, 12)) {v : Nat} (hv : xR h a 47 = some v) (hdg : decode cc pc = .ok (.getfield 80, 3)) (kk : W p l e R s m args below meth c H locs cells slots Q (F0 m (pc + 3) ls (.ref v :: rest))) : W p l e R s m args below meth c H locs cells slots Q (F0 m pc ls (.ref a :: rest)) := x_get C0 hR (ci := 12) (k := 47) (N := 60) (T := TX12) rfl iX12 (by decide) rfl wf_X12_80 (by show va_rf (xR h a 47) = _; rw [hv]; rfl) ht hdg kk
end XN_X12_joined
set_option maxHeartbeats 4000000 in
set_option maxRecDepth 100000 in
theorem jw_X12_joined_188 {p : Program} {l : Launch} {e : Env} {s : State} {m : MethodId} {args : Array Value} {below : List Frame} {meth : Method} {c : Code} {D : xD} {ty : xTy} {k62 : Nat → Int32 → Int32 → Int32 → Int32 → Int32 → Int32 → xH → Option (Int32 × xH)} (C0 : xC D RX12 cX12_joined 11 (some .int) p s m args meth c) {r : Int32} {h9 : xH} (hk62 : ∀ (v0 : Nat) (v3 : Int32) (v4 : Int32) (v5 : Int32) (v6 : Int32) (v7 : Int32) (v8 : Int32) (h : xH), ty v0 = some (0, 12) → k62 v0 v3 v4 v5 v6 v7 v8 h = some (r, h9) → ∀ (H : Heap) (locs : List Loc), xRep D ty h H → xS ty s.heap H locs → ∀ ls : Array Slot, lv_has ls 11 [(0, .ref v0), (3, .int v3), (4, .int v4), (5, .int v5), (6, .int v6), (7, .int v7), (8, .int v8)] → W p l e jr_X12_joined s m args below meth c H locs 0 0 (MQ below (xQ D ty (some (.int r)) h9) args s 0 0 (xdom ty)) (F0 m 62 ls [])) : ∀ (v0 : Nat) (v3 : Int32) (v4 : Int32) (v5 : Int32) (v6 : Int32) (v7 : Int32) (v10 : Int32) (s0 : Int32) (h : xH), ty v0 = some (0, 12) → jf_X12_joined_188 ty k62 v0 v3 v4 v5 v6 v7 v10 s0 h = some (r, h9) → ∀ (H : Heap) (locs : List Loc), xRep D ty h H → xS ty s.heap H locs → ∀ ls : Array Slot, lv_has ls 11 [(0, .ref v0), (3, .int v3), (4, .int v4), (5, .int v5), (6, .int v6), (7, .int v7), (10, .int v10)] → W p l e jr_X12_joined s m args below meth c H locs 0 0 (MQ below (xQ D ty (some (.int r)) h9) args s 0 0 (xdom ty)) (F0 m 188 ls [.int s0]) := by
  have hx := C0.1
  have hb := C0.2.1
  have hown := C0.2.2.2.2.2.1
  have hts := C0.2.2.2.2.2.2.1
  intro v0 v3 v4 v5 v6 v7 v10 s0 h t_v0 hF H locs hR hS ls hl
  unfold jf_X12_joined_188 at hF
  refine lv_istore (lv' := [(8, .int s0), (0, .ref v0), (3, .int v3), (4, .int v4), (5, .int v5), (6, .int v6), (7, .int v7), (10, .int v10)]) hx hb dX12_joined_188 hl (by decide) rfl (fun ls hl => ?_)
  refine lv_bipush (v := 100) hx hb dX12_joined_190 (by decide) ?_
  refine lv_iload hx hb dX12_joined_192 (lv_at hl 7 rfl) ?_
  refine lv_iadd hx hb dX12_joined_194 ?_
  refine lv_istore (lv' := [(9, .int (100 + v10)), (8, .int s0), (0, .ref v0), (3, .int v3), (4, .int v4), (5, .int v5), (6, .int v6), (7, .int v7), (10, .int v10)]) hx hb dX12_joined_195 hl (by decide) rfl (fun ls hl => ?_)
  refine lv_aload_n hx hb dX12_joined_197 rfl (lv_at hl 2 rfl) ?_
  refine lv_iload hx hb dX12_joined_198 (lv_at hl 4 rfl) ?_
  obtain ⟨a1, e_a1, hF⟩ := xbd hF
  refine cl_X12_241 C0 hR hS e_a1 t_v0 ⟨(Nat.le_of_ble_eq_true rfl), (Nat.le_of_ble_eq_true rfl)⟩ hl.1 (Nat.le_of_ble_eq_true rfl) ⟨(Nat.le_of_ble_eq_true rfl), (Nat.le_of_ble_eq_true rfl)⟩ dX12_joined_200 (fun H locs hR hS => ?_)
  refine lv_istore (lv' := [(4, .int a1), (9, .int (100 + v10)), (8, .int s0), (0, .ref v0), (3, .int v3), (5, .int v5), (6, .int v6), (7, .int v7), (10, .int v10)]) hx hb dX12_joined_203 hl (by decide) rfl (fun ls hl => ?_)
  refine lv_aload_n hx hb dX12_joined_205 rfl (lv_at hl 3 rfl) ?_
  refine lv_iload hx hb dX12_joined_206 (lv_at hl 5 rfl) ?_
  obtain ⟨a2, e_a2, hF⟩ := xbd hF
  refine cl_X12_241 C0 hR hS e_a2 t_v0 ⟨(Nat.le_of_ble_eq_true rfl), (Nat.le_of_ble_eq_true rfl)⟩ hl.1 (Nat.le_of_ble_eq_true rfl) ⟨(Nat.le_of_ble_eq_true rfl), (Nat.le_of_ble_eq_true rfl)⟩ dX12_joined_208 (fun H locs hR hS => ?_)
  refine lv_istore (lv' := [(5, .int a2), (4, .int a1), (9, .int (100 + v10)), (8, .int s0), (0, .ref v0), (3, .int v3), (6, .int v6), (7, .int v7), (10, .int v10)]) hx hb dX12_joined_211 hl (by decide) rfl (fun ls hl => ?_)
  refine lv_iload hx hb dX12_joined_213 (lv_at hl 7 rfl) ?_
  refine lv_iload_n hx hb dX12_joined_215 rfl (lv_at hl 5 rfl) ?_
  refine lv_icmp_ne (tgt := 222) hx hb dX12_joined_216 (by decide) (fun c3 => ?_) (fun c3 => ?_)
  · have hF := xel hF c3
    refine lv_iinc (v := v7 + 1) (lv' := [(7, .int (v7 + 1)), (5, .int a2), (4, .int a1), (9, .int (100 + v10)), (8, .int s0), (0, .ref v0), (3, .int v3), (6, .int v6), (10, .int v10)]) hx hb dX12_joined_222 hl (k := 7) rfl rfl (by decide) rfl (fun ls hl => ?_)
    refine lv_goto (tgt := 62) hx hb dX12_joined_225 (by decide) ?_
    exact hk62 _ _ _ _ _ _ _ _ t_v0 hF _ _ hR hS _ (lv_sub hl [5, 6, 2, 1, 7, 0, 4] rfl)
  · have hF := xif hF c3
    refine lv_iload hx hb dX12_joined_219 (lv_at hl 2 rfl) ?_
    cases hF
    exact x_iret C0 hR hS dX12_joined_221
set_option maxHeartbeats 4000000 in
set_option maxRecDepth 100000 in
theorem jw_X12_joined_154 {p : Program} {l : Launch} {e : Env} {s : State} {m : MethodId} {args : Array Value} {below : List Frame} {meth : Method} {c : Code} {D : xD} {ty : xTy} {k62 : Nat → Int32 → Int32 → Int32 → Int32 → Int32 → Int32 → xH → Option (Int32 × xH)} (C0 : xC D RX12 cX12_joined 11 (some .int) p s m args meth c) {r : Int32} {h9 : xH} (hk62 : ∀ (v0 : Nat) (v3 : Int32) (v4 : Int32) (v5 : Int32) (v6 : Int32) (v7 : Int32) (v8 : Int32) (h : xH), ty v0 = some (0, 12) → k62 v0 v3 v4 v5 v6 v7 v8 h = some (r, h9) → ∀ (H : Heap) (locs : List Loc), xRep D ty h H → xS ty s.heap H locs → ∀ ls : Array Slot, lv_has ls 11 [(0, .ref v0), (3, .int v3), (4, .int v4), (5, .int v5), (6, .int v6), (7, .int v7), (8, .int v8)] → W p l e jr_X12_joined s m args below meth c H locs 0 0 (MQ below (xQ D ty (some (.int r)) h9) args s 0 0 (xdom ty)) (F0 m 62 ls [])) : ∀ (v0 : Nat) (v3 : Int32) (v4 : Int32) (v5 : Int32) (v6 : Int32) (v7 : Int32) (v8 : Int32) (v10 : Int32) (h : xH), ty v0 = some (0, 12) → jf_X12_joined_154 ty k62 v0 v3 v4 v5 v6 v7 v8 v10 h = some (r, h9) → ∀ (H : Heap) (locs : List Loc), xRep D ty h H → xS ty s.heap H locs → ∀ ls : Array Slot, lv_has ls 11 [(0, .ref v0), (3, .int v3), (4, .int v4), (5, .int v5), (6, .int v6), (7, .int v7), (8, .int v8), (10, .int v10)] → W p l e jr_X12_joined s m args below meth c H locs 0 0 (MQ below (xQ D ty (some (.int r)) h9) args s 0 0 (xdom ty)) (F0 m 154 ls []) := by
  have hx := C0.1
  have hb := C0.2.1
  have hown := C0.2.2.2.2.2.1
  have hts := C0.2.2.2.2.2.2.1
  intro v0 v3 v4 v5 v6 v7 v8 v10 h t_v0 hF H locs hR hS ls hl
  unfold jf_X12_joined_154 at hF
  refine lv_aload_n hx hb dX12_joined_154 rfl (lv_at hl 0 rfl) ?_
  obtain ⟨a4, e_a4, hF⟩ := xbd hF
  refine gf_X12_77 C0 hR t_v0 e_a4 dX12_joined_155 ?_
  refine lv_iload hx hb dX12_joined_158 (lv_at hl 7 rfl) ?_
  refine lv_iload hx hb dX12_joined_160 (lv_at hl 2 rfl) ?_
  obtain ⟨h5, e_h5, hF⟩ := xbd hF
  refine x_iast C0 hR hS e_h5 dX12_joined_162 (fun H locs hR hS => ?_)
  refine lv_aload_n hx hb dX12_joined_163 rfl (lv_at hl 0 rfl) ?_
  obtain ⟨a6, e_a6, hF⟩ := xbd hF
  refine gf_X12_80 C0 hR t_v0 e_a6 dX12_joined_164 ?_
  refine lv_iload hx hb dX12_joined_167 (lv_at hl 7 rfl) ?_
  refine lv_iload hx hb dX12_joined_169 (lv_at hl 3 rfl) ?_
  obtain ⟨h7, e_h7, hF⟩ := xbd hF
  refine x_iast C0 hR hS e_h7 dX12_joined_171 (fun H locs hR hS => ?_)
  refine lv_iload hx hb dX12_joined_172 (lv_at hl 7 rfl) ?_
  refine lv_iload hx hb dX12_joined_174 (lv_at hl 6 rfl) ?_
  refine lv_icmp_ne (tgt := 186) hx hb dX12_joined_176 (by decide) (fun c8 => ?_) (fun c8 => ?_)
  · have hF := xel hF c8
    refine lv_iload hx hb dX12_joined_186 (lv_at hl 6 rfl) ?_
    exact jw_X12_joined_188 C0 hk62 _ _ _ _ _ _ _ _ _ t_v0 hF _ _ hR hS _ (lv_sub hl [0, 1, 2, 3, 4, 5, 7] rfl)
  · have hF := xif hF c8
    refine lv_iload hx hb dX12_joined_179 (lv_at hl 6 rfl) ?_
    refine lv_iconst (v := 1) hx hb dX12_joined_181 (by decide) ?_
    refine lv_iadd hx hb dX12_joined_182 ?_
    refine lv_goto (tgt := 188) hx hb dX12_joined_183 (by decide) ?_
    exact jw_X12_joined_188 C0 hk62 _ _ _ _ _ _ _ _ _ t_v0 hF _ _ hR hS _ (lv_sub hl [0, 1, 2, 3, 4, 5, 7] rfl)
set_option maxHeartbeats 4000000 in
set_option maxRecDepth 100000 in
theorem jw_X12_joined_109 {p : Program} {l : Launch} {e : Env} {s : State} {m : MethodId} {args : Array Value} {below : List Frame} {meth : Method} {c : Code} {D : xD} {ty : xTy} {k62 : Nat → Int32 → Int32 → Int32 → Int32 → Int32 → Int32 → xH → Option (Int32 × xH)} (C0 : xC D RX12 cX12_joined 11 (some .int) p s m args meth c) {r : Int32} {h9 : xH} (hk62 : ∀ (v0 : Nat) (v3 : Int32) (v4 : Int32) (v5 : Int32) (v6 : Int32) (v7 : Int32) (v8 : Int32) (h : xH), ty v0 = some (0, 12) → k62 v0 v3 v4 v5 v6 v7 v8 h = some (r, h9) → ∀ (H : Heap) (locs : List Loc), xRep D ty h H → xS ty s.heap H locs → ∀ ls : Array Slot, lv_has ls 11 [(0, .ref v0), (3, .int v3), (4, .int v4), (5, .int v5), (6, .int v6), (7, .int v7), (8, .int v8)] → W p l e jr_X12_joined s m args below meth c H locs 0 0 (MQ below (xQ D ty (some (.int r)) h9) args s 0 0 (xdom ty)) (F0 m 62 ls [])) : ∀ n : Nat, ∀ (v0 : Nat) (v3 : Int32) (v4 : Int32) (v5 : Int32) (v6 : Int32) (v7 : Int32) (v8 : Int32) (v10 : Int32) (h : xH), ty v0 = some (0, 12) → jf_X12_joined_109 ty k62 n v0 v3 v4 v5 v6 v7 v8 v10 h = some (r, h9) → ∀ (H : Heap) (locs : List Loc), xRep D ty h H → xS ty s.heap H locs → ∀ ls : Array Slot, lv_has ls 11 [(0, .ref v0), (3, .int v3), (4, .int v4), (5, .int v5), (6, .int v6), (7, .int v7), (8, .int v8), (10, .int v10)] → W p l e jr_X12_joined s m args below meth c H locs 0 0 (MQ below (xQ D ty (some (.int r)) h9) args s 0 0 (xdom ty)) (F0 m 109 ls []) := by
  have hx := C0.1
  have hb := C0.2.1
  have hown := C0.2.2.2.2.2.1
  have hts := C0.2.2.2.2.2.2.1
  intro n
  induction n with
  | zero =>
    intro v0 v3 v4 v5 v6 v7 v8 v10 h t_v0 hF H locs hR hS ls hl
    cases hF
  | succ n ih =>
    intro v0 v3 v4 v5 v6 v7 v8 v10 h t_v0 hF H locs hR hS ls hl
    rw [jf_X12_joined_109_s] at hF
    refine lv_iload hx hb dX12_joined_109 (lv_at hl 7 rfl) ?_
    refine lv_iload hx hb dX12_joined_111 (lv_at hl 6 rfl) ?_
    refine lv_icmp_ge (tgt := 154) hx hb dX12_joined_113 (by decide) (fun c9 => ?_) (fun c9 => ?_)
    · have hF := xif hF c9
      exact jw_X12_joined_154 C0 hk62 _ _ _ _ _ _ _ _ _ t_v0 hF _ _ hR hS _ (lv_sub hl [0, 1, 2, 3, 4, 5, 6, 7] rfl)
    · have hF := xel hF c9
      refine lv_aload_n hx hb dX12_joined_116 rfl (lv_at hl 0 rfl) ?_
      refine lv_aload_n hx hb dX12_joined_117 rfl (lv_at hl 0 rfl) ?_
      obtain ⟨a10, e_a10, hF⟩ := xbd hF
      refine gf_X12_77 C0 hR t_v0 e_a10 dX12_joined_118 ?_
      refine lv_iload hx hb dX12_joined_121 (lv_at hl 7 rfl) ?_
      obtain ⟨a11, e_a11, hF⟩ := xbd hF
      refine x_iald C0 hR e_a11 dX12_joined_123 ?_
      refine lv_iload hx hb dX12_joined_124 (lv_at hl 2 rfl) ?_
      obtain ⟨a12, e_a12, hF⟩ := xbd hF
      refine cl_X12_245 C0 hR hS e_a12 t_v0 ⟨(Nat.le_of_ble_eq_true rfl), (Nat.le_of_ble_eq_true rfl)⟩ hl.1 (Nat.le_of_ble_eq_true rfl) ⟨(Nat.le_of_ble_eq_true rfl), (Nat.le_of_ble_eq_true rfl)⟩ dX12_joined_126 (fun H locs hR hS => ?_)
      refine lv_if_eq (tgt := 148) hx hb dX12_joined_129 (by decide) (fun c13 => ?_) (fun c13 => ?_)
      · have hF := xif hF c13
        refine lv_iinc (v := v10 + 1) (lv' := [(10, .int (v10 + 1)), (0, .ref v0), (3, .int v3), (4, .int v4), (5, .int v5), (6, .int v6), (7, .int v7), (8, .int v8)]) hx hb dX12_joined_148 hl (k := 7) rfl rfl (by decide) rfl (fun ls hl => ?_)
        refine lv_goto (tgt := 109) hx hb dX12_joined_151 (by decide) ?_
        exact ih _ _ _ _ _ _ _ _ _ t_v0 hF _ _ hR hS _ (lv_sub hl [1, 2, 3, 4, 5, 6, 7, 0] rfl)
      · have hF := xel hF c13
        refine lv_aload_n hx hb dX12_joined_132 rfl (lv_at hl 0 rfl) ?_
        refine lv_aload_n hx hb dX12_joined_133 rfl (lv_at hl 0 rfl) ?_
        obtain ⟨a14, e_a14, hF⟩ := xbd hF
        refine gf_X12_80 C0 hR t_v0 e_a14 dX12_joined_134 ?_
        refine lv_iload hx hb dX12_joined_137 (lv_at hl 7 rfl) ?_
        obtain ⟨a15, e_a15, hF⟩ := xbd hF
        refine x_iald C0 hR e_a15 dX12_joined_139 ?_
        refine lv_iload hx hb dX12_joined_140 (lv_at hl 3 rfl) ?_
        obtain ⟨a16, e_a16, hF⟩ := xbd hF
        refine cl_X12_245 C0 hR hS e_a16 t_v0 ⟨(Nat.le_of_ble_eq_true rfl), (Nat.le_of_ble_eq_true rfl)⟩ hl.1 (Nat.le_of_ble_eq_true rfl) ⟨(Nat.le_of_ble_eq_true rfl), (Nat.le_of_ble_eq_true rfl)⟩ dX12_joined_142 (fun H locs hR hS => ?_)
        refine lv_if_ne (tgt := 154) hx hb dX12_joined_145 (by decide) (fun c17 => ?_) (fun c17 => ?_)
        · have hF := xel hF c17
          exact jw_X12_joined_154 C0 hk62 _ _ _ _ _ _ _ _ _ t_v0 hF _ _ hR hS _ (lv_sub hl [0, 1, 2, 3, 4, 5, 6, 7] rfl)
        · have hF := xif hF c17
          refine lv_iinc (v := v10 + 1) (lv' := [(10, .int (v10 + 1)), (0, .ref v0), (3, .int v3), (4, .int v4), (5, .int v5), (6, .int v6), (7, .int v7), (8, .int v8)]) hx hb dX12_joined_148 hl (k := 7) rfl rfl (by decide) rfl (fun ls hl => ?_)
          refine lv_goto (tgt := 109) hx hb dX12_joined_151 (by decide) ?_
          exact ih _ _ _ _ _ _ _ _ _ t_v0 hF _ _ hR hS _ (lv_sub hl [1, 2, 3, 4, 5, 6, 7, 0] rfl)
set_option maxHeartbeats 4000000 in
set_option maxRecDepth 100000 in
theorem jw_X12_joined_62 {p : Program} {l : Launch} {e : Env} {s : State} {m : MethodId} {args : Array Value} {below : List Frame} {meth : Method} {c : Code} {D : xD} {ty : xTy} (C0 : xC D RX12 cX12_joined 11 (some .int) p s m args meth c) {r : Int32} {h9 : xH} : ∀ n : Nat, ∀ (v0 : Nat) (v3 : Int32) (v4 : Int32) (v5 : Int32) (v6 : Int32) (v7 : Int32) (v8 : Int32) (h : xH), ty v0 = some (0, 12) → jf_X12_joined_62 ty n v0 v3 v4 v5 v6 v7 v8 h = some (r, h9) → ∀ (H : Heap) (locs : List Loc), xRep D ty h H → xS ty s.heap H locs → ∀ ls : Array Slot, lv_has ls 11 [(0, .ref v0), (3, .int v3), (4, .int v4), (5, .int v5), (6, .int v6), (7, .int v7), (8, .int v8)] → W p l e jr_X12_joined s m args below meth c H locs 0 0 (MQ below (xQ D ty (some (.int r)) h9) args s 0 0 (xdom ty)) (F0 m 62 ls []) := by
  have hx := C0.1
  have hb := C0.2.1
  have hown := C0.2.2.2.2.2.1
  have hts := C0.2.2.2.2.2.2.1
  intro n
  induction n with
  | zero =>
    intro v0 v3 v4 v5 v6 v7 v8 h t_v0 hF H locs hR hS ls hl
    cases hF
  | succ n ih =>
    intro v0 v3 v4 v5 v6 v7 v8 h t_v0 hF H locs hR hS ls hl
    rw [jf_X12_joined_62_s] at hF
    refine lv_iload hx hb dX12_joined_62 (lv_at hl 2 rfl) ?_
    refine lv_iload hx hb dX12_joined_64 (lv_at hl 4 rfl) ?_
    refine lv_icmp_ge (tgt := 228) hx hb dX12_joined_66 (by decide) (fun c18 => ?_) (fun c18 => ?_)
    · have hF := xif hF c18
      refine lv_bipush (v := (-2)) hx hb dX12_joined_228 (by decide) ?_
      cases hF
      exact x_iret C0 hR hS dX12_joined_230
    · have hF := xel hF c18
      refine lv_aload_n hx hb dX12_joined_69 rfl (lv_at hl 0 rfl) ?_
      obtain ⟨a19, e_a19, hF⟩ := xbd hF
      refine gf_X12_53 C0 hR t_v0 e_a19 dX12_joined_70 ?_
      refine lv_iload hx hb dX12_joined_73 (lv_at hl 2 rfl) ?_
      obtain ⟨a20, e_a20, hF⟩ := xbd hF
      refine x_iald C0 hR e_a20 dX12_joined_75 ?_
      refine lv_istore (lv' := [(9, .int a20), (0, .ref v0), (3, .int v3), (4, .int v4), (5, .int v5), (6, .int v6), (7, .int v7), (8, .int v8)]) hx hb dX12_joined_76 hl (by decide) rfl (fun ls hl => ?_)
      refine lv_iload hx hb dX12_joined_78 (lv_at hl 0 rfl) ?_
      refine lv_bipush (v := 100) hx hb dX12_joined_80 (by decide) ?_
      refine lv_icmp_ge (tgt := 106) hx hb dX12_joined_82 (by decide) (fun c21 => ?_) (fun c21 => ?_)
      · have hF := xif hF c21
        refine lv_iconst (v := 0) hx hb dX12_joined_106 (by decide) ?_
        refine lv_istore (lv' := [(10, .int 0), (9, .int a20), (0, .ref v0), (3, .int v3), (4, .int v4), (5, .int v5), (6, .int v6), (7, .int v7), (8, .int v8)]) hx hb dX12_joined_107 hl (by decide) rfl (fun ls hl => ?_)
        obtain ⟨_, hF⟩ := xlim_sp hF
        exact jw_X12_joined_109 C0 ih _ _ _ _ _ _ _ _ _ _ t_v0 hF _ _ hR hS _ (lv_sub hl [2, 3, 4, 5, 6, 7, 8, 0] rfl)
      · have hF := xel hF c21
        refine lv_iload hx hb dX12_joined_85 (lv_at hl 0 rfl) ?_
        refine lv_aload_n hx hb dX12_joined_87 rfl (lv_at hl 1 rfl) ?_
        obtain ⟨a22, e_a22, hF⟩ := xbd hF
        refine gf_X12_53 C0 hR t_v0 e_a22 dX12_joined_88 ?_
        refine lv_iload hx hb dX12_joined_91 (lv_at hl 4 rfl) ?_
        obtain ⟨a23, e_a23, hF⟩ := xbd hF
        refine x_iald C0 hR e_a23 dX12_joined_93 ?_
        refine lv_icmp_ne (tgt := 106) hx hb dX12_joined_94 (by decide) (fun c24 => ?_) (fun c24 => ?_)
        · have hF := xel hF c24
          refine lv_iconst (v := 0) hx hb dX12_joined_106 (by decide) ?_
          refine lv_istore (lv' := [(10, .int 0), (9, .int a20), (0, .ref v0), (3, .int v3), (4, .int v4), (5, .int v5), (6, .int v6), (7, .int v7), (8, .int v8)]) hx hb dX12_joined_107 hl (by decide) rfl (fun ls hl => ?_)
          obtain ⟨_, hF⟩ := xlim_sp hF
          exact jw_X12_joined_109 C0 ih _ _ _ _ _ _ _ _ _ _ t_v0 hF _ _ hR hS _ (lv_sub hl [2, 3, 4, 5, 6, 7, 8, 0] rfl)
        · have hF := xif hF c24
          refine lv_iinc (v := v4 + 1) (lv' := [(4, .int (v4 + 1)), (9, .int a20), (0, .ref v0), (3, .int v3), (5, .int v5), (6, .int v6), (7, .int v7), (8, .int v8)]) hx hb dX12_joined_97 hl (k := 3) rfl rfl (by decide) rfl (fun ls hl => ?_)
          refine lv_iinc (v := v5 + 1) (lv' := [(5, .int (v5 + 1)), (4, .int (v4 + 1)), (9, .int a20), (0, .ref v0), (3, .int v3), (6, .int v6), (7, .int v7), (8, .int v8)]) hx hb dX12_joined_100 hl (k := 4) rfl rfl (by decide) rfl (fun ls hl => ?_)
          refine lv_goto (tgt := 213) hx hb dX12_joined_103 (by decide) ?_
          refine lv_iload hx hb dX12_joined_213 (lv_at hl 6 rfl) ?_
          refine lv_iload_n hx hb dX12_joined_215 rfl (lv_at hl 4 rfl) ?_
          refine lv_icmp_ne (tgt := 222) hx hb dX12_joined_216 (by decide) (fun c25 => ?_) (fun c25 => ?_)
          · have hF := xel hF c25
            refine lv_iinc (v := v7 + 1) (lv' := [(7, .int (v7 + 1)), (5, .int (v5 + 1)), (4, .int (v4 + 1)), (9, .int a20), (0, .ref v0), (3, .int v3), (6, .int v6), (8, .int v8)]) hx hb dX12_joined_222 hl (k := 6) rfl rfl (by decide) rfl (fun ls hl => ?_)
            refine lv_goto (tgt := 62) hx hb dX12_joined_225 (by decide) ?_
            exact ih _ _ _ _ _ _ _ _ t_v0 hF _ _ hR hS _ (lv_sub hl [4, 5, 2, 1, 6, 0, 7] rfl)
          · have hF := xif hF c25
            refine lv_iload hx hb dX12_joined_219 (lv_at hl 2 rfl) ?_
            cases hF
            exact x_iret C0 hR hS dX12_joined_221
set_option maxHeartbeats 4000000 in
set_option maxRecDepth 100000 in
theorem jc_X12_joined {l : Launch} {D : xD} {ty : xTy} {h : xH} {v0 : Nat} {v1 : Int32} {v2 : Int32} {v3 : Int32} {r : Int32} {h9 : xH} (t_v0 : ty v0 = some (0, 12)) (hF : jf_X12_joined ty h v0 v1 v2 v3 = some (r, h9)) : Met l yX12_joined (xws yX12_joined cX12_joined 11 (some .int)) jr_X12_joined (xPc D ty h [.ref v0, .int v1, .int v2, .int v3]) (xQ D ty (some (.int r)) h9) 0 0 (xdom ty) := by
  refine x_met (by decide) ?_
  intro p e s m below meth c C0 hR
  generalize hargs : ([.ref v0, .int v1, .int v2, .int v3] : List Value).toArray = args at C0 ⊢
  have hx := C0.1
  have hb := C0.2.1
  have hown := C0.2.2.2.2.2.1
  have hts := C0.2.2.2.2.2.2.1
  have hS : xS ty s.heap s.heap [] := xS.rf
  have hl := lv_entry ([.ref v0, .int v1, .int v2, .int v3]) (n := 11) (Nat.le_of_ble_eq_true rfl)
  rw [← hargs, lg_entry_eq]
  rw [hargs]
  generalize (lg_sl ([.ref v0, .int v1, .int v2, .int v3]) ++ List.replicate (11 - (lg_sl ([.ref v0, .int v1, .int v2, .int v3])).length) Slot.unset).toArray = ls at hl ⊢
  have hl : lv_has ls 11 [(0, .ref v0), (1, .int v1), (2, .int v2), (3, .int v3)] := hl
  unfold jf_X12_joined at hF
  refine lv_aload_n hx hb dX12_joined_0 rfl (lv_at hl 0 rfl) ?_
  refine lv_iconst (v := 0) hx hb dX12_joined_1 (by decide) ?_
  obtain ⟨h26, e_h26, hF⟩ := xbd hF
  refine pf_X12_101 C0 hR hS t_v0 dX12_joined_2 (fun H locs hR hS => ?_)
  rw [Option.some.inj e_h26] at hR
  refine lv_aload_n hx hb dX12_joined_5 rfl (lv_at hl 0 rfl) ?_
  refine lv_iload_n hx hb dX12_joined_6 rfl (lv_at hl 1 rfl) ?_
  obtain ⟨a27, e_a27, hF⟩ := xbd hF
  refine cl_X12_282 C0 hR hS e_a27 t_v0 ⟨(Nat.le_of_ble_eq_true rfl), (Nat.le_of_ble_eq_true rfl)⟩ hl.1 (Nat.le_of_ble_eq_true rfl) ⟨(Nat.le_of_ble_eq_true rfl), (Nat.le_of_ble_eq_true rfl)⟩ dX12_joined_7 (fun H locs hR hS => ?_)
  refine lv_if_eq (tgt := 25) hx hb dX12_joined_10 (by decide) (fun c28 => ?_) (fun c28 => ?_)
  · have hF := xif hF c28
    refine lv_iconst (v := (-1)) hx hb dX12_joined_25 (by decide) ?_
    cases hF
    exact x_iret C0 hR hS dX12_joined_26
  · have hF := xel hF c28
    refine lv_aload_n hx hb dX12_joined_13 rfl (lv_at hl 0 rfl) ?_
    refine lv_iload_n hx hb dX12_joined_14 rfl (lv_at hl 2 rfl) ?_
    obtain ⟨a29, e_a29, hF⟩ := xbd hF
    refine cl_X12_282 C0 hR hS e_a29 t_v0 ⟨(Nat.le_of_ble_eq_true rfl), (Nat.le_of_ble_eq_true rfl)⟩ hl.1 (Nat.le_of_ble_eq_true rfl) ⟨(Nat.le_of_ble_eq_true rfl), (Nat.le_of_ble_eq_true rfl)⟩ dX12_joined_15 (fun H locs hR hS => ?_)
    refine lv_if_eq (tgt := 25) hx hb dX12_joined_18 (by decide) (fun c30 => ?_) (fun c30 => ?_)
    · have hF := xif hF c30
      refine lv_iconst (v := (-1)) hx hb dX12_joined_25 (by decide) ?_
      cases hF
      exact x_iret C0 hR hS dX12_joined_26
    · have hF := xel hF c30
      refine lv_iload_n hx hb dX12_joined_21 rfl (lv_at hl 3 rfl) ?_
      refine lv_if_ge (tgt := 27) hx hb dX12_joined_22 (by decide) (fun c31 => ?_) (fun c31 => ?_)
      · have hF := xif hF c31
        refine lv_aload_n hx hb dX12_joined_27 rfl (lv_at hl 0 rfl) ?_
        obtain ⟨h32, e_h32, hF⟩ := xbd hF
        refine cl_X12_263 C0 hR hS e_h32 t_v0 ⟨(Nat.le_of_ble_eq_true rfl), (Nat.le_of_ble_eq_true rfl)⟩ hl.1 (Nat.le_of_ble_eq_true rfl) ⟨(Nat.le_of_ble_eq_true rfl), (Nat.le_of_ble_eq_true rfl)⟩ dX12_joined_28 (fun H locs hR hS => ?_)
        refine lv_aload_n hx hb dX12_joined_31 rfl (lv_at hl 0 rfl) ?_
        refine lv_iload_n hx hb dX12_joined_32 rfl (lv_at hl 1 rfl) ?_
        refine lv_iconst (v := 4) hx hb dX12_joined_33 (by decide) ?_
        obtain ⟨a34, h33, e_h33, hF⟩ := xbd2 hF
        refine cl_X12_270 C0 hR hS e_h33 t_v0 ⟨(Nat.le_of_ble_eq_true rfl), (Nat.le_of_ble_eq_true rfl)⟩ hl.1 (Nat.le_of_ble_eq_true rfl) ⟨(Nat.le_of_ble_eq_true rfl), (Nat.le_of_ble_eq_true rfl)⟩ dX12_joined_34 (fun H locs hR hS => ?_)
        refine lv_istore (lv' := [(4, .int a34), (0, .ref v0), (1, .int v1), (2, .int v2), (3, .int v3)]) hx hb dX12_joined_37 hl (by decide) rfl (fun ls hl => ?_)
        refine lv_aload_n hx hb dX12_joined_39 rfl (lv_at hl 1 rfl) ?_
        refine lv_iload_n hx hb dX12_joined_40 rfl (lv_at hl 3 rfl) ?_
        refine lv_bipush (v := 8) hx hb dX12_joined_41 (by decide) ?_
        obtain ⟨a36, h35, e_h35, hF⟩ := xbd2 hF
        refine cl_X12_270 C0 hR hS e_h35 t_v0 ⟨(Nat.le_of_ble_eq_true rfl), (Nat.le_of_ble_eq_true rfl)⟩ hl.1 (Nat.le_of_ble_eq_true rfl) ⟨(Nat.le_of_ble_eq_true rfl), (Nat.le_of_ble_eq_true rfl)⟩ dX12_joined_43 (fun H locs hR hS => ?_)
        refine lv_istore (lv' := [(5, .int a36), (4, .int a34), (0, .ref v0), (1, .int v1), (2, .int v2), (3, .int v3)]) hx hb dX12_joined_46 hl (by decide) rfl (fun ls hl => ?_)
        refine lv_aload_n hx hb dX12_joined_48 rfl (lv_at hl 2 rfl) ?_
        refine lv_iload hx hb dX12_joined_49 (lv_at hl 1 rfl) ?_
        obtain ⟨a37, e_a37, hF⟩ := xbd hF
        refine cl_X12_241 C0 hR hS e_a37 t_v0 ⟨(Nat.le_of_ble_eq_true rfl), (Nat.le_of_ble_eq_true rfl)⟩ hl.1 (Nat.le_of_ble_eq_true rfl) ⟨(Nat.le_of_ble_eq_true rfl), (Nat.le_of_ble_eq_true rfl)⟩ dX12_joined_51 (fun H locs hR hS => ?_)
        refine lv_istore (lv' := [(6, .int a37), (5, .int a36), (4, .int a34), (0, .ref v0), (1, .int v1), (2, .int v2), (3, .int v3)]) hx hb dX12_joined_54 hl (by decide) rfl (fun ls hl => ?_)
        refine lv_iconst (v := 0) hx hb dX12_joined_56 (by decide) ?_
        refine lv_istore (lv' := [(7, .int 0), (6, .int a37), (5, .int a36), (4, .int a34), (0, .ref v0), (1, .int v1), (2, .int v2), (3, .int v3)]) hx hb dX12_joined_57 hl (by decide) rfl (fun ls hl => ?_)
        refine lv_iconst (v := 0) hx hb dX12_joined_59 (by decide) ?_
        refine lv_istore (lv' := [(8, .int 0), (7, .int 0), (6, .int a37), (5, .int a36), (4, .int a34), (0, .ref v0), (1, .int v1), (2, .int v2), (3, .int v3)]) hx hb dX12_joined_60 hl (by decide) rfl (fun ls hl => ?_)
        obtain ⟨_, hF⟩ := xlim_sp hF
        exact jw_X12_joined_62 C0 _ _ _ _ _ _ _ _ _ t_v0 hF _ _ hR hS _ (lv_sub hl [5, 8, 4, 3, 2, 1, 0] rfl)
      · have hF := xel hF c31
        refine lv_iconst (v := (-1)) hx hb dX12_joined_25 (by decide) ?_
        cases hF
        exact x_iret C0 hR hS dX12_joined_26
theorem xm_X12_joined : xMw yX12_joined cX12_joined 11 (some .int) 3 := ⟨xin 1740 (by decide +kernel) rfl, xin 126 (by decide +kernel) rfl, by decide +kernel⟩
theorem xi_X12_joined : Cond.instanceMethod yX12_joined ∈ xT := xin 1738 (by decide +kernel) rfl
theorem xe_X12_joined : Cond.selects yX12_joined.cls yX12_joined yX12_joined ∈ xT := xin 1739 (by decide +kernel) rfl
theorem dX12_isOver_0 : decode cX12_isOver 0 = .ok (.iload_n 1, 1) := by decide +kernel
theorem dX12_isOver_1 : decode cX12_isOver 1 = .ok (.iload_n 2, 1) := by decide +kernel
theorem dX12_isOver_2 : decode cX12_isOver 2 = .ok (.if_icmp .ne 7, 3) := by decide +kernel
theorem dX12_isOver_5 : decode cX12_isOver 5 = .ok (.iload_n 3, 1) := by decide +kernel
theorem dX12_isOver_6 : decode cX12_isOver 6 = .ok (.ifCond .eq 19, 3) := by decide +kernel
theorem dX12_isOver_9 : decode cX12_isOver 9 = .ok (.aload_n 0, 1) := by decide +kernel
theorem dX12_isOver_10 : decode cX12_isOver 10 = .ok (.getfield 35, 3) := by decide +kernel
theorem dX12_isOver_13 : decode cX12_isOver 13 = .ok (.bipush 12, 2) := by decide +kernel
theorem dX12_isOver_15 : decode cX12_isOver 15 = .ok (.iload_n 1, 1) := by decide +kernel
theorem dX12_isOver_16 : decode cX12_isOver 16 = .ok (.imul, 1) := by decide +kernel
theorem dX12_isOver_17 : decode cX12_isOver 17 = .ok (.iload_n 3, 1) := by decide +kernel
theorem dX12_isOver_18 : decode cX12_isOver 18 = .ok (.iadd, 1) := by decide +kernel
theorem dX12_isOver_19 : decode cX12_isOver 19 = .ok (.iaload, 1) := by decide +kernel
theorem dX12_isOver_20 : decode cX12_isOver 20 = .ok (.bipush 100, 2) := by decide +kernel
theorem dX12_isOver_22 : decode cX12_isOver 22 = .ok (.if_icmp .lt 5, 3) := by decide +kernel
theorem dX12_isOver_25 : decode cX12_isOver 25 = .ok (.iconst 0, 1) := by decide +kernel
theorem dX12_isOver_26 : decode cX12_isOver 26 = .ok (.ireturn, 1) := by decide +kernel
theorem dX12_isOver_27 : decode cX12_isOver 27 = .ok (.aload_n 0, 1) := by decide +kernel
theorem dX12_isOver_28 : decode cX12_isOver 28 = .ok (.invokevirtual 263, 3) := by decide +kernel
theorem dX12_isOver_31 : decode cX12_isOver 31 = .ok (.aload_n 0, 1) := by decide +kernel
theorem dX12_isOver_32 : decode cX12_isOver 32 = .ok (.iload_n 1, 1) := by decide +kernel
theorem dX12_isOver_33 : decode cX12_isOver 33 = .ok (.iconst 4, 1) := by decide +kernel
theorem dX12_isOver_34 : decode cX12_isOver 34 = .ok (.invokevirtual 270, 3) := by decide +kernel
theorem dX12_isOver_37 : decode cX12_isOver 37 = .ok (.istore 4, 2) := by decide +kernel
theorem dX12_isOver_39 : decode cX12_isOver 39 = .ok (.aload_n 0, 1) := by decide +kernel
theorem dX12_isOver_40 : decode cX12_isOver 40 = .ok (.iload 4, 2) := by decide +kernel
theorem dX12_isOver_42 : decode cX12_isOver 42 = .ok (.iload_n 3, 1) := by decide +kernel
theorem dX12_isOver_43 : decode cX12_isOver 43 = .ok (.iadd, 1) := by decide +kernel
theorem dX12_isOver_44 : decode cX12_isOver 44 = .ok (.aload_n 0, 1) := by decide +kernel
theorem dX12_isOver_45 : decode cX12_isOver 45 = .ok (.iload_n 2, 1) := by decide +kernel
theorem dX12_isOver_46 : decode cX12_isOver 46 = .ok (.bipush 8, 2) := by decide +kernel
theorem dX12_isOver_48 : decode cX12_isOver 48 = .ok (.invokevirtual 270, 3) := by decide +kernel
theorem dX12_isOver_51 : decode cX12_isOver 51 = .ok (.invokevirtual 276, 3) := by decide +kernel
theorem dX12_isOver_54 : decode cX12_isOver 54 = .ok (.ireturn, 1) := by decide +kernel
set_option maxHeartbeats 4000000 in
set_option maxRecDepth 100000 in
theorem jw_X12_isOver_9 {p : Program} {l : Launch} {e : Env} {s : State} {m : MethodId} {args : Array Value} {below : List Frame} {meth : Method} {c : Code} {D : xD} {ty : xTy} (C0 : xC D RX12 cX12_isOver 5 (some .boolean) p s m args meth c) {r : Int32} {h9 : xH} : ∀ (v0 : Nat) (v1 : Int32) (v2 : Int32) (v3 : Int32) (h : xH), ty v0 = some (0, 12) → jf_X12_isOver_9 ty v0 v1 v2 v3 h = some (r, h9) → ∀ (H : Heap) (locs : List Loc), xRep D ty h H → xS ty s.heap H locs → ∀ ls : Array Slot, lv_has ls 5 [(0, .ref v0), (1, .int v1), (2, .int v2), (3, .int v3)] → W p l e jr_X12_isOver s m args below meth c H locs 0 0 (MQ below (xQ D ty (some (.int r)) h9) args s 0 0 (xdom ty)) (F0 m 9 ls []) := by
  have hx := C0.1
  have hb := C0.2.1
  have hown := C0.2.2.2.2.2.1
  have hts := C0.2.2.2.2.2.2.1
  intro v0 v1 v2 v3 h t_v0 hF H locs hR hS ls hl
  unfold jf_X12_isOver_9 at hF
  refine lv_aload_n hx hb dX12_isOver_9 rfl (lv_at hl 0 rfl) ?_
  obtain ⟨a1, e_a1, hF⟩ := xbd hF
  refine gf_X12_35 C0 hR t_v0 e_a1 dX12_isOver_10 ?_
  refine lv_bipush (v := 12) hx hb dX12_isOver_13 (by decide) ?_
  refine lv_iload_n hx hb dX12_isOver_15 rfl (lv_at hl 1 rfl) ?_
  refine lv_imul hx hb dX12_isOver_16 ?_
  refine lv_iload_n hx hb dX12_isOver_17 rfl (lv_at hl 3 rfl) ?_
  refine lv_iadd hx hb dX12_isOver_18 ?_
  obtain ⟨a2, e_a2, hF⟩ := xbd hF
  refine x_iald C0 hR e_a2 dX12_isOver_19 ?_
  refine lv_bipush (v := 100) hx hb dX12_isOver_20 (by decide) ?_
  refine lv_icmp_lt (tgt := 27) hx hb dX12_isOver_22 (by decide) (fun c3 => ?_) (fun c3 => ?_)
  · have hF := xif hF c3
    refine lv_aload_n hx hb dX12_isOver_27 rfl (lv_at hl 0 rfl) ?_
    obtain ⟨h4, e_h4, hF⟩ := xbd hF
    refine cl_X12_263 C0 hR hS e_h4 t_v0 ⟨(Nat.le_of_ble_eq_true rfl), (Nat.le_of_ble_eq_true rfl)⟩ hl.1 (Nat.le_of_ble_eq_true rfl) ⟨(Nat.le_of_ble_eq_true rfl), (Nat.le_of_ble_eq_true rfl)⟩ dX12_isOver_28 (fun H locs hR hS => ?_)
    refine lv_aload_n hx hb dX12_isOver_31 rfl (lv_at hl 0 rfl) ?_
    refine lv_iload_n hx hb dX12_isOver_32 rfl (lv_at hl 1 rfl) ?_
    refine lv_iconst (v := 4) hx hb dX12_isOver_33 (by decide) ?_
    obtain ⟨a6, h5, e_h5, hF⟩ := xbd2 hF
    refine cl_X12_270 C0 hR hS e_h5 t_v0 ⟨(Nat.le_of_ble_eq_true rfl), (Nat.le_of_ble_eq_true rfl)⟩ hl.1 (Nat.le_of_ble_eq_true rfl) ⟨(Nat.le_of_ble_eq_true rfl), (Nat.le_of_ble_eq_true rfl)⟩ dX12_isOver_34 (fun H locs hR hS => ?_)
    refine lv_istore (lv' := [(4, .int a6), (0, .ref v0), (1, .int v1), (2, .int v2), (3, .int v3)]) hx hb dX12_isOver_37 hl (by decide) rfl (fun ls hl => ?_)
    refine lv_aload_n hx hb dX12_isOver_39 rfl (lv_at hl 1 rfl) ?_
    refine lv_iload hx hb dX12_isOver_40 (lv_at hl 0 rfl) ?_
    refine lv_iload_n hx hb dX12_isOver_42 rfl (lv_at hl 4 rfl) ?_
    refine lv_iadd hx hb dX12_isOver_43 ?_
    refine lv_aload_n hx hb dX12_isOver_44 rfl (lv_at hl 1 rfl) ?_
    refine lv_iload_n hx hb dX12_isOver_45 rfl (lv_at hl 3 rfl) ?_
    refine lv_bipush (v := 8) hx hb dX12_isOver_46 (by decide) ?_
    obtain ⟨a8, h7, e_h7, hF⟩ := xbd2 hF
    refine cl_X12_270 C0 hR hS e_h7 t_v0 ⟨(Nat.le_of_ble_eq_true rfl), (Nat.le_of_ble_eq_true rfl)⟩ hl.1 (Nat.le_of_ble_eq_true rfl) ⟨(Nat.le_of_ble_eq_true rfl), (Nat.le_of_ble_eq_true rfl)⟩ dX12_isOver_48 (fun H locs hR hS => ?_)
    obtain ⟨a10, h9, e_h9, hF⟩ := xbd2 hF
    refine cl_X12_276 C0 hR hS e_h9 t_v0 ⟨(Nat.le_of_ble_eq_true rfl), (Nat.le_of_ble_eq_true rfl)⟩ hl.1 (Nat.le_of_ble_eq_true rfl) ⟨(Nat.le_of_ble_eq_true rfl), (Nat.le_of_ble_eq_true rfl)⟩ dX12_isOver_51 (fun H locs hR hS => ?_)
    obtain ⟨w11, e_w11, hF⟩ := xbd hF
    cases hF
    exact x_zret C0 hR hS e_w11 dX12_isOver_54
  · have hF := xel hF c3
    refine lv_iconst (v := 0) hx hb dX12_isOver_25 (by decide) ?_
    cases hF
    exact x_zret (w := 0) C0 hR hS (by decide) dX12_isOver_26
set_option maxHeartbeats 4000000 in
set_option maxRecDepth 100000 in
theorem jc_X12_isOver {l : Launch} {D : xD} {ty : xTy} {h : xH} {v0 : Nat} {v1 : Int32} {v2 : Int32} {v3 : Int32} {r : Int32} {h9 : xH} (t_v0 : ty v0 = some (0, 12)) (hF : jf_X12_isOver ty h v0 v1 v2 v3 = some (r, h9)) : Met l yX12_isOver (xws yX12_isOver cX12_isOver 5 (some .boolean)) jr_X12_isOver (xPc D ty h [.ref v0, .int v1, .int v2, .int v3]) (xQ D ty (some (.int r)) h9) 0 0 (xdom ty) := by
  refine x_met (by decide) ?_
  intro p e s m below meth c C0 hR
  generalize hargs : ([.ref v0, .int v1, .int v2, .int v3] : List Value).toArray = args at C0 ⊢
  have hx := C0.1
  have hb := C0.2.1
  have hown := C0.2.2.2.2.2.1
  have hts := C0.2.2.2.2.2.2.1
  have hS : xS ty s.heap s.heap [] := xS.rf
  have hl := lv_entry ([.ref v0, .int v1, .int v2, .int v3]) (n := 5) (Nat.le_of_ble_eq_true rfl)
  rw [← hargs, lg_entry_eq]
  rw [hargs]
  generalize (lg_sl ([.ref v0, .int v1, .int v2, .int v3]) ++ List.replicate (5 - (lg_sl ([.ref v0, .int v1, .int v2, .int v3])).length) Slot.unset).toArray = ls at hl ⊢
  have hl : lv_has ls 5 [(0, .ref v0), (1, .int v1), (2, .int v2), (3, .int v3)] := hl
  unfold jf_X12_isOver at hF
  refine lv_iload_n hx hb dX12_isOver_0 rfl (lv_at hl 1 rfl) ?_
  refine lv_iload_n hx hb dX12_isOver_1 rfl (lv_at hl 2 rfl) ?_
  refine lv_icmp_ne (tgt := 9) hx hb dX12_isOver_2 (by decide) (fun c12 => ?_) (fun c12 => ?_)
  · have hF := xel hF c12
    exact jw_X12_isOver_9 C0 _ _ _ _ _ t_v0 hF _ _ hR hS _ (lv_sub hl [0, 1, 2, 3] rfl)
  · have hF := xif hF c12
    refine lv_iload_n hx hb dX12_isOver_5 rfl (lv_at hl 3 rfl) ?_
    refine lv_if_eq (tgt := 25) hx hb dX12_isOver_6 (by decide) (fun c13 => ?_) (fun c13 => ?_)
    · have hF := xif hF c13
      refine lv_iconst (v := 0) hx hb dX12_isOver_25 (by decide) ?_
      cases hF
      exact x_zret (w := 0) C0 hR hS (by decide) dX12_isOver_26
    · have hF := xel hF c13
      exact jw_X12_isOver_9 C0 _ _ _ _ _ t_v0 hF _ _ hR hS _ (lv_sub hl [0, 1, 2, 3] rfl)
theorem xm_X12_isOver : xMw yX12_isOver cX12_isOver 5 (some .boolean) 3 := ⟨xin 1752 (by decide +kernel) rfl, xin 126 (by decide +kernel) rfl, by decide +kernel⟩
theorem xi_X12_isOver : Cond.instanceMethod yX12_isOver ∈ xT := xin 1751 (by decide +kernel) rfl
theorem xe_X12_isOver : Cond.selects yX12_isOver.cls yX12_isOver yX12_isOver ∈ xT := xin 97 (by decide +kernel) rfl
theorem dX12_overBits_0 : decode cX12_overBits 0 = .ok (.iconst 0, 1) := by decide +kernel
theorem dX12_overBits_1 : decode cX12_overBits 1 = .ok (.istore_n 3, 1) := by decide +kernel
theorem dX12_overBits_2 : decode cX12_overBits 2 = .ok (.iconst 0, 1) := by decide +kernel
theorem dX12_overBits_3 : decode cX12_overBits 3 = .ok (.istore 4, 2) := by decide +kernel
theorem dX12_overBits_5 : decode cX12_overBits 5 = .ok (.iload 4, 2) := by decide +kernel
theorem dX12_overBits_7 : decode cX12_overBits 7 = .ok (.aload_n 0, 1) := by decide +kernel
theorem dX12_overBits_8 : decode cX12_overBits 8 = .ok (.getfield 32, 3) := by decide +kernel
theorem dX12_overBits_11 : decode cX12_overBits 11 = .ok (.iload_n 1, 1) := by decide +kernel
theorem dX12_overBits_12 : decode cX12_overBits 12 = .ok (.iaload, 1) := by decide +kernel
theorem dX12_overBits_13 : decode cX12_overBits 13 = .ok (.if_icmp .ge 31, 3) := by decide +kernel
theorem dX12_overBits_16 : decode cX12_overBits 16 = .ok (.iload_n 3, 1) := by decide +kernel
theorem dX12_overBits_17 : decode cX12_overBits 17 = .ok (.aload_n 0, 1) := by decide +kernel
theorem dX12_overBits_18 : decode cX12_overBits 18 = .ok (.iload_n 1, 1) := by decide +kernel
theorem dX12_overBits_19 : decode cX12_overBits 19 = .ok (.iload_n 2, 1) := by decide +kernel
theorem dX12_overBits_20 : decode cX12_overBits 20 = .ok (.iload 4, 2) := by decide +kernel
theorem dX12_overBits_22 : decode cX12_overBits 22 = .ok (.invokevirtual 340, 3) := by decide +kernel
theorem dX12_overBits_25 : decode cX12_overBits 25 = .ok (.ifCond .eq 10, 3) := by decide +kernel
theorem dX12_overBits_28 : decode cX12_overBits 28 = .ok (.iconst 1, 1) := by decide +kernel
theorem dX12_overBits_29 : decode cX12_overBits 29 = .ok (.iload 4, 2) := by decide +kernel
theorem dX12_overBits_31 : decode cX12_overBits 31 = .ok (.ishl, 1) := by decide +kernel
theorem dX12_overBits_32 : decode cX12_overBits 32 = .ok (.goto 4, 3) := by decide +kernel
theorem dX12_overBits_35 : decode cX12_overBits 35 = .ok (.iconst 0, 1) := by decide +kernel
theorem dX12_overBits_36 : decode cX12_overBits 36 = .ok (.ior, 1) := by decide +kernel
theorem dX12_overBits_37 : decode cX12_overBits 37 = .ok (.istore_n 3, 1) := by decide +kernel
theorem dX12_overBits_38 : decode cX12_overBits 38 = .ok (.iinc 4 1, 3) := by decide +kernel
theorem dX12_overBits_41 : decode cX12_overBits 41 = .ok (.goto (-36), 3) := by decide +kernel
theorem dX12_overBits_44 : decode cX12_overBits 44 = .ok (.iload_n 3, 1) := by decide +kernel
theorem dX12_overBits_45 : decode cX12_overBits 45 = .ok (.ireturn, 1) := by decide +kernel
theorem wl_X12_340 : Cond.methodLink RX12 340 yX12_isOver ∈ xT := xin 1749 (by decide +kernel) rfl
section XN_X12_overBits
variable {p : Program} {l : Launch} {e : Env} {R : Room} {s : State} {m : MethodId} {args : Array Value} {below : List Frame} {meth : Method} {c : Code} {H H0 : Heap} {locs : List Loc} {cells slots : Nat} {Q : State → Prop} {cc : ByteArray} {nL pc : Nat} {rt : Option FieldType} {ls : Array Slot} {rest : List Value} {D : xD} {ty : xTy} {h : xH}
theorem cl_X12_340 {v0 : Nat} {v1 : Int32} {v2 : Int32} {v3 : Int32} {r : Int32} {h9 : xH} (C0 : xC D RX12 cc nL rt p s m args meth c) (hR : xRep D ty h H) (hS : xS ty H0 H locs) (hF : jf_X12_isOver ty h v0 v1 v2 v3 = some (r, h9)) (t_v0 : ty v0 = some (0, 12)) (hrm : jr_X12_isOver.frames + 1 ≤ R.frames ∧ 8 + (5 + 11) + jr_X12_isOver.locals ≤ R.locals) (hsz : ls.size = nL) (hW : (rest.map fun v => v.category).sum ≤ 8) (hf : cells ≤ R.cells ∧ slots ≤ R.slots) (hdg : decode cc pc = .ok (.invokevirtual 340, 3)) (kk : ∀ (H1 : Heap) (locs1 : List Loc), xRep D ty h9 H1 → xS ty H0 H1 locs1 → W p l e R s m args below meth c H1 locs1 cells slots Q (F0 m (pc + 3) ls (.int r :: rest))) : W p l e R s m args below meth c H locs cells slots Q (F0 m pc ls (.int v3 :: .int v2 :: .int v1 :: .ref v0 :: rest)) := x_callV C0 (jc_X12_isOver t_v0 hF) xm_X12_isOver xi_X12_isOver xe_X12_isOver wl_X12_340 ⟨rfl, rfl, hrm⟩ (ci := 12) rfl t_v0 hR hS (As := [.int v1, .int v2, .int v3]) rfl hsz rfl hW hdg hf kk
end XN_X12_overBits
set_option maxHeartbeats 4000000 in
set_option maxRecDepth 100000 in
theorem jw_X12_overBits_5 {p : Program} {l : Launch} {e : Env} {s : State} {m : MethodId} {args : Array Value} {below : List Frame} {meth : Method} {c : Code} {D : xD} {ty : xTy} (C0 : xC D RX12 cX12_overBits 5 (some .int) p s m args meth c) {r : Int32} {h9 : xH} : ∀ n : Nat, ∀ (v0 : Nat) (v1 : Int32) (v2 : Int32) (v3 : Int32) (v4 : Int32) (h : xH), ty v0 = some (0, 12) → jf_X12_overBits_5 ty n v0 v1 v2 v3 v4 h = some (r, h9) → ∀ (H : Heap) (locs : List Loc), xRep D ty h H → xS ty s.heap H locs → ∀ ls : Array Slot, lv_has ls 5 [(0, .ref v0), (1, .int v1), (2, .int v2), (3, .int v3), (4, .int v4)] → W p l e jr_X12_overBits s m args below meth c H locs 0 0 (MQ below (xQ D ty (some (.int r)) h9) args s 0 0 (xdom ty)) (F0 m 5 ls []) := by
  have hx := C0.1
  have hb := C0.2.1
  have hown := C0.2.2.2.2.2.1
  have hts := C0.2.2.2.2.2.2.1
  intro n
  induction n with
  | zero =>
    intro v0 v1 v2 v3 v4 h t_v0 hF H locs hR hS ls hl
    cases hF
  | succ n ih =>
    intro v0 v1 v2 v3 v4 h t_v0 hF H locs hR hS ls hl
    rw [jf_X12_overBits_5_s] at hF
    refine lv_iload hx hb dX12_overBits_5 (lv_at hl 4 rfl) ?_
    refine lv_aload_n hx hb dX12_overBits_7 rfl (lv_at hl 0 rfl) ?_
    obtain ⟨a1, e_a1, hF⟩ := xbd hF
    refine gf_X12_32 C0 hR t_v0 e_a1 dX12_overBits_8 ?_
    refine lv_iload_n hx hb dX12_overBits_11 rfl (lv_at hl 1 rfl) ?_
    obtain ⟨a2, e_a2, hF⟩ := xbd hF
    refine x_iald C0 hR e_a2 dX12_overBits_12 ?_
    refine lv_icmp_ge (tgt := 44) hx hb dX12_overBits_13 (by decide) (fun c3 => ?_) (fun c3 => ?_)
    · have hF := xif hF c3
      refine lv_iload_n hx hb dX12_overBits_44 rfl (lv_at hl 3 rfl) ?_
      cases hF
      exact x_iret C0 hR hS dX12_overBits_45
    · have hF := xel hF c3
      refine lv_iload_n hx hb dX12_overBits_16 rfl (lv_at hl 3 rfl) ?_
      refine lv_aload_n hx hb dX12_overBits_17 rfl (lv_at hl 0 rfl) ?_
      refine lv_iload_n hx hb dX12_overBits_18 rfl (lv_at hl 1 rfl) ?_
      refine lv_iload_n hx hb dX12_overBits_19 rfl (lv_at hl 2 rfl) ?_
      refine lv_iload hx hb dX12_overBits_20 (lv_at hl 4 rfl) ?_
      obtain ⟨a5, h4, e_h4, hF⟩ := xbd2 hF
      refine cl_X12_340 C0 hR hS e_h4 t_v0 ⟨(Nat.le_of_ble_eq_true rfl), (Nat.le_of_ble_eq_true rfl)⟩ hl.1 (Nat.le_of_ble_eq_true rfl) ⟨(Nat.le_of_ble_eq_true rfl), (Nat.le_of_ble_eq_true rfl)⟩ dX12_overBits_22 (fun H locs hR hS => ?_)
      refine lv_if_eq (tgt := 35) hx hb dX12_overBits_25 (by decide) (fun c6 => ?_) (fun c6 => ?_)
      · have hF := xif hF c6
        refine lv_iconst (v := 0) hx hb dX12_overBits_35 (by decide) ?_
        refine lv_ior hx hb dX12_overBits_36 ?_
        refine lv_istore_n (lv' := [(3, .int (v3 ||| 0)), (0, .ref v0), (1, .int v1), (2, .int v2), (4, .int v4)]) hx hb dX12_overBits_37 rfl hl (by decide) rfl (fun ls hl => ?_)
        refine lv_iinc (v := v4 + 1) (lv' := [(4, .int (v4 + 1)), (3, .int (v3 ||| 0)), (0, .ref v0), (1, .int v1), (2, .int v2)]) hx hb dX12_overBits_38 hl (k := 4) rfl rfl (by decide) rfl (fun ls hl => ?_)
        refine lv_goto (tgt := 5) hx hb dX12_overBits_41 (by decide) ?_
        exact ih _ _ _ _ _ _ t_v0 hF _ _ hR hS _ (lv_sub hl [2, 3, 4, 1, 0] rfl)
      · have hF := xel hF c6
        refine lv_iconst (v := 1) hx hb dX12_overBits_28 (by decide) ?_
        refine lv_iload hx hb dX12_overBits_29 (lv_at hl 4 rfl) ?_
        refine lv_ishl hx hb dX12_overBits_31 ?_
        refine lv_goto (tgt := 36) hx hb dX12_overBits_32 (by decide) ?_
        refine lv_ior hx hb dX12_overBits_36 ?_
        refine lv_istore_n (lv' := [(3, .int (v3 ||| (1 <<< (v4 &&& 31)))), (0, .ref v0), (1, .int v1), (2, .int v2), (4, .int v4)]) hx hb dX12_overBits_37 rfl hl (by decide) rfl (fun ls hl => ?_)
        refine lv_iinc (v := v4 + 1) (lv' := [(4, .int (v4 + 1)), (3, .int (v3 ||| (1 <<< (v4 &&& 31)))), (0, .ref v0), (1, .int v1), (2, .int v2)]) hx hb dX12_overBits_38 hl (k := 4) rfl rfl (by decide) rfl (fun ls hl => ?_)
        refine lv_goto (tgt := 5) hx hb dX12_overBits_41 (by decide) ?_
        exact ih _ _ _ _ _ _ t_v0 hF _ _ hR hS _ (lv_sub hl [2, 3, 4, 1, 0] rfl)
set_option maxHeartbeats 4000000 in
set_option maxRecDepth 100000 in
theorem jc_X12_overBits {l : Launch} {D : xD} {ty : xTy} {h : xH} {v0 : Nat} {v1 : Int32} {v2 : Int32} {r : Int32} {h9 : xH} (t_v0 : ty v0 = some (0, 12)) (hF : jf_X12_overBits ty h v0 v1 v2 = some (r, h9)) : Met l yX12_overBits (xws yX12_overBits cX12_overBits 5 (some .int)) jr_X12_overBits (xPc D ty h [.ref v0, .int v1, .int v2]) (xQ D ty (some (.int r)) h9) 0 0 (xdom ty) := by
  refine x_met (by decide) ?_
  intro p e s m below meth c C0 hR
  generalize hargs : ([.ref v0, .int v1, .int v2] : List Value).toArray = args at C0 ⊢
  have hx := C0.1
  have hb := C0.2.1
  have hown := C0.2.2.2.2.2.1
  have hts := C0.2.2.2.2.2.2.1
  have hS : xS ty s.heap s.heap [] := xS.rf
  have hl := lv_entry ([.ref v0, .int v1, .int v2]) (n := 5) (Nat.le_of_ble_eq_true rfl)
  rw [← hargs, lg_entry_eq]
  rw [hargs]
  generalize (lg_sl ([.ref v0, .int v1, .int v2]) ++ List.replicate (5 - (lg_sl ([.ref v0, .int v1, .int v2])).length) Slot.unset).toArray = ls at hl ⊢
  have hl : lv_has ls 5 [(0, .ref v0), (1, .int v1), (2, .int v2)] := hl
  unfold jf_X12_overBits at hF
  refine lv_iconst (v := 0) hx hb dX12_overBits_0 (by decide) ?_
  refine lv_istore_n (lv' := [(3, .int 0), (0, .ref v0), (1, .int v1), (2, .int v2)]) hx hb dX12_overBits_1 rfl hl (by decide) rfl (fun ls hl => ?_)
  refine lv_iconst (v := 0) hx hb dX12_overBits_2 (by decide) ?_
  refine lv_istore (lv' := [(4, .int 0), (3, .int 0), (0, .ref v0), (1, .int v1), (2, .int v2)]) hx hb dX12_overBits_3 hl (by decide) rfl (fun ls hl => ?_)
  obtain ⟨_, hF⟩ := xlim_sp hF
  exact jw_X12_overBits_5 C0 _ _ _ _ _ _ _ t_v0 hF _ _ hR hS _ (lv_sub hl [2, 3, 4, 1, 0] rfl)
theorem xm_X12_overBits : xMw yX12_overBits cX12_overBits 5 (some .int) 2 := ⟨xin 1748 (by decide +kernel) rfl, xin 126 (by decide +kernel) rfl, by decide +kernel⟩
theorem xi_X12_overBits : Cond.instanceMethod yX12_overBits ∈ xT := xin 1747 (by decide +kernel) rfl
theorem xe_X12_overBits : Cond.selects yX12_overBits.cls yX12_overBits yX12_overBits ∈ xT := xin 96 (by decide +kernel) rfl
theorem dX12_overlaps_0 : decode cX12_overlaps 0 = .ok (.aload_n 0, 1) := by decide +kernel
theorem dX12_overlaps_1 : decode cX12_overlaps 1 = .ok (.iconst 0, 1) := by decide +kernel
theorem dX12_overlaps_2 : decode cX12_overlaps 2 = .ok (.putfield 101, 3) := by decide +kernel
theorem dX12_overlaps_5 : decode cX12_overlaps 5 = .ok (.aload_n 0, 1) := by decide +kernel
theorem dX12_overlaps_6 : decode cX12_overlaps 6 = .ok (.iload_n 1, 1) := by decide +kernel
theorem dX12_overlaps_7 : decode cX12_overlaps 7 = .ok (.invokevirtual 282, 3) := by decide +kernel
theorem dX12_overlaps_10 : decode cX12_overlaps 10 = .ok (.ifCond .eq 20, 3) := by decide +kernel
theorem dX12_overlaps_13 : decode cX12_overlaps 13 = .ok (.aload_n 0, 1) := by decide +kernel
theorem dX12_overlaps_14 : decode cX12_overlaps 14 = .ok (.iload_n 2, 1) := by decide +kernel
theorem dX12_overlaps_15 : decode cX12_overlaps 15 = .ok (.invokevirtual 282, 3) := by decide +kernel
theorem dX12_overlaps_18 : decode cX12_overlaps 18 = .ok (.ifCond .eq 12, 3) := by decide +kernel
theorem dX12_overlaps_21 : decode cX12_overlaps 21 = .ok (.aload_n 0, 1) := by decide +kernel
theorem dX12_overlaps_22 : decode cX12_overlaps 22 = .ok (.iload_n 1, 1) := by decide +kernel
theorem dX12_overlaps_23 : decode cX12_overlaps 23 = .ok (.iload_n 2, 1) := by decide +kernel
theorem dX12_overlaps_24 : decode cX12_overlaps 24 = .ok (.invokevirtual 343, 3) := by decide +kernel
theorem dX12_overlaps_27 : decode cX12_overlaps 27 = .ok (.goto 4, 3) := by decide +kernel
theorem dX12_overlaps_30 : decode cX12_overlaps 30 = .ok (.iconst (-1), 1) := by decide +kernel
theorem dX12_overlaps_31 : decode cX12_overlaps 31 = .ok (.ireturn, 1) := by decide +kernel
theorem wl_X12_343 : Cond.methodLink RX12 343 yX12_overBits ∈ xT := xin 1745 (by decide +kernel) rfl
section XN_X12_overlaps
variable {p : Program} {l : Launch} {e : Env} {R : Room} {s : State} {m : MethodId} {args : Array Value} {below : List Frame} {meth : Method} {c : Code} {H H0 : Heap} {locs : List Loc} {cells slots : Nat} {Q : State → Prop} {cc : ByteArray} {nL pc : Nat} {rt : Option FieldType} {ls : Array Slot} {rest : List Value} {D : xD} {ty : xTy} {h : xH}
theorem cl_X12_343 {v0 : Nat} {v1 : Int32} {v2 : Int32} {r : Int32} {h9 : xH} (C0 : xC D RX12 cc nL rt p s m args meth c) (hR : xRep D ty h H) (hS : xS ty H0 H locs) (hF : jf_X12_overBits ty h v0 v1 v2 = some (r, h9)) (t_v0 : ty v0 = some (0, 12)) (hrm : jr_X12_overBits.frames + 1 ≤ R.frames ∧ 8 + (5 + 11) + jr_X12_overBits.locals ≤ R.locals) (hsz : ls.size = nL) (hW : (rest.map fun v => v.category).sum ≤ 8) (hf : cells ≤ R.cells ∧ slots ≤ R.slots) (hdg : decode cc pc = .ok (.invokevirtual 343, 3)) (kk : ∀ (H1 : Heap) (locs1 : List Loc), xRep D ty h9 H1 → xS ty H0 H1 locs1 → W p l e R s m args below meth c H1 locs1 cells slots Q (F0 m (pc + 3) ls (.int r :: rest))) : W p l e R s m args below meth c H locs cells slots Q (F0 m pc ls (.int v2 :: .int v1 :: .ref v0 :: rest)) := x_callV C0 (jc_X12_overBits t_v0 hF) xm_X12_overBits xi_X12_overBits xe_X12_overBits wl_X12_343 ⟨rfl, rfl, hrm⟩ (ci := 12) rfl t_v0 hR hS (As := [.int v1, .int v2]) rfl hsz rfl hW hdg hf kk
end XN_X12_overlaps
set_option maxHeartbeats 4000000 in
set_option maxRecDepth 100000 in
theorem jc_X12_overlaps {l : Launch} {D : xD} {ty : xTy} {h : xH} {v0 : Nat} {v1 : Int32} {v2 : Int32} {r : Int32} {h9 : xH} (t_v0 : ty v0 = some (0, 12)) (hF : jf_X12_overlaps ty h v0 v1 v2 = some (r, h9)) : Met l yX12_overlaps (xws yX12_overlaps cX12_overlaps 3 (some .int)) jr_X12_overlaps (xPc D ty h [.ref v0, .int v1, .int v2]) (xQ D ty (some (.int r)) h9) 0 0 (xdom ty) := by
  refine x_met (by decide) ?_
  intro p e s m below meth c C0 hR
  generalize hargs : ([.ref v0, .int v1, .int v2] : List Value).toArray = args at C0 ⊢
  have hx := C0.1
  have hb := C0.2.1
  have hown := C0.2.2.2.2.2.1
  have hts := C0.2.2.2.2.2.2.1
  have hS : xS ty s.heap s.heap [] := xS.rf
  have hl := lv_entry ([.ref v0, .int v1, .int v2]) (n := 3) (Nat.le_of_ble_eq_true rfl)
  rw [← hargs, lg_entry_eq]
  rw [hargs]
  generalize (lg_sl ([.ref v0, .int v1, .int v2]) ++ List.replicate (3 - (lg_sl ([.ref v0, .int v1, .int v2])).length) Slot.unset).toArray = ls at hl ⊢
  have hl : lv_has ls 3 [(0, .ref v0), (1, .int v1), (2, .int v2)] := hl
  unfold jf_X12_overlaps at hF
  refine lv_aload_n hx hb dX12_overlaps_0 rfl (lv_at hl 0 rfl) ?_
  refine lv_iconst (v := 0) hx hb dX12_overlaps_1 (by decide) ?_
  obtain ⟨h1, e_h1, hF⟩ := xbd hF
  refine pf_X12_101 C0 hR hS t_v0 dX12_overlaps_2 (fun H locs hR hS => ?_)
  rw [Option.some.inj e_h1] at hR
  refine lv_aload_n hx hb dX12_overlaps_5 rfl (lv_at hl 0 rfl) ?_
  refine lv_iload_n hx hb dX12_overlaps_6 rfl (lv_at hl 1 rfl) ?_
  obtain ⟨a2, e_a2, hF⟩ := xbd hF
  refine cl_X12_282 C0 hR hS e_a2 t_v0 ⟨(Nat.le_of_ble_eq_true rfl), (Nat.le_of_ble_eq_true rfl)⟩ hl.1 (Nat.le_of_ble_eq_true rfl) ⟨(Nat.le_of_ble_eq_true rfl), (Nat.le_of_ble_eq_true rfl)⟩ dX12_overlaps_7 (fun H locs hR hS => ?_)
  refine lv_if_eq (tgt := 30) hx hb dX12_overlaps_10 (by decide) (fun c3 => ?_) (fun c3 => ?_)
  · have hF := xif hF c3
    refine lv_iconst (v := (-1)) hx hb dX12_overlaps_30 (by decide) ?_
    cases hF
    exact x_iret C0 hR hS dX12_overlaps_31
  · have hF := xel hF c3
    refine lv_aload_n hx hb dX12_overlaps_13 rfl (lv_at hl 0 rfl) ?_
    refine lv_iload_n hx hb dX12_overlaps_14 rfl (lv_at hl 2 rfl) ?_
    obtain ⟨a4, e_a4, hF⟩ := xbd hF
    refine cl_X12_282 C0 hR hS e_a4 t_v0 ⟨(Nat.le_of_ble_eq_true rfl), (Nat.le_of_ble_eq_true rfl)⟩ hl.1 (Nat.le_of_ble_eq_true rfl) ⟨(Nat.le_of_ble_eq_true rfl), (Nat.le_of_ble_eq_true rfl)⟩ dX12_overlaps_15 (fun H locs hR hS => ?_)
    refine lv_if_eq (tgt := 30) hx hb dX12_overlaps_18 (by decide) (fun c5 => ?_) (fun c5 => ?_)
    · have hF := xif hF c5
      refine lv_iconst (v := (-1)) hx hb dX12_overlaps_30 (by decide) ?_
      cases hF
      exact x_iret C0 hR hS dX12_overlaps_31
    · have hF := xel hF c5
      refine lv_aload_n hx hb dX12_overlaps_21 rfl (lv_at hl 0 rfl) ?_
      refine lv_iload_n hx hb dX12_overlaps_22 rfl (lv_at hl 1 rfl) ?_
      refine lv_iload_n hx hb dX12_overlaps_23 rfl (lv_at hl 2 rfl) ?_
      obtain ⟨a7, h6, e_h6, hF⟩ := xbd2 hF
      refine cl_X12_343 C0 hR hS e_h6 t_v0 ⟨(Nat.le_of_ble_eq_true rfl), (Nat.le_of_ble_eq_true rfl)⟩ hl.1 (Nat.le_of_ble_eq_true rfl) ⟨(Nat.le_of_ble_eq_true rfl), (Nat.le_of_ble_eq_true rfl)⟩ dX12_overlaps_24 (fun H locs hR hS => ?_)
      refine lv_goto (tgt := 31) hx hb dX12_overlaps_27 (by decide) ?_
      cases hF
      exact x_iret C0 hR hS dX12_overlaps_31
theorem xm_X12_overlaps : xMw yX12_overlaps cX12_overlaps 3 (some .int) 2 := ⟨xin 1744 (by decide +kernel) rfl, xin 126 (by decide +kernel) rfl, by decide +kernel⟩
theorem xi_X12_overlaps : Cond.instanceMethod yX12_overlaps ∈ xT := xin 1742 (by decide +kernel) rfl
theorem xe_X12_overlaps : Cond.selects yX12_overlaps.cls yX12_overlaps yX12_overlaps ∈ xT := xin 1743 (by decide +kernel) rfl
theorem dX12_criticals_0 : decode cX12_criticals 0 = .ok (.aload_n 0, 1) := by decide +kernel
theorem dX12_criticals_1 : decode cX12_criticals 1 = .ok (.iconst 0, 1) := by decide +kernel
theorem dX12_criticals_2 : decode cX12_criticals 2 = .ok (.putfield 101, 3) := by decide +kernel
theorem dX12_criticals_5 : decode cX12_criticals 5 = .ok (.iconst 0, 1) := by decide +kernel
theorem dX12_criticals_6 : decode cX12_criticals 6 = .ok (.istore_n 1, 1) := by decide +kernel
theorem dX12_criticals_7 : decode cX12_criticals 7 = .ok (.iconst 0, 1) := by decide +kernel
theorem dX12_criticals_8 : decode cX12_criticals 8 = .ok (.istore_n 2, 1) := by decide +kernel
theorem dX12_criticals_9 : decode cX12_criticals 9 = .ok (.iload_n 2, 1) := by decide +kernel
theorem dX12_criticals_10 : decode cX12_criticals 10 = .ok (.aload_n 0, 1) := by decide +kernel
theorem dX12_criticals_11 : decode cX12_criticals 11 = .ok (.getfield 178, 3) := by decide +kernel
theorem dX12_criticals_14 : decode cX12_criticals 14 = .ok (.if_icmp .ge 79, 3) := by decide +kernel
theorem dX12_criticals_17 : decode cX12_criticals 17 = .ok (.iconst 0, 1) := by decide +kernel
theorem dX12_criticals_18 : decode cX12_criticals 18 = .ok (.istore_n 3, 1) := by decide +kernel
theorem dX12_criticals_19 : decode cX12_criticals 19 = .ok (.iload_n 3, 1) := by decide +kernel
theorem dX12_criticals_20 : decode cX12_criticals 20 = .ok (.aload_n 0, 1) := by decide +kernel
theorem dX12_criticals_21 : decode cX12_criticals 21 = .ok (.getfield 178, 3) := by decide +kernel
theorem dX12_criticals_24 : decode cX12_criticals 24 = .ok (.if_icmp .ge 63, 3) := by decide +kernel
theorem dX12_criticals_27 : decode cX12_criticals 27 = .ok (.aload_n 0, 1) := by decide +kernel
theorem dX12_criticals_28 : decode cX12_criticals 28 = .ok (.iload_n 2, 1) := by decide +kernel
theorem dX12_criticals_29 : decode cX12_criticals 29 = .ok (.invokevirtual 285, 3) := by decide +kernel
theorem dX12_criticals_32 : decode cX12_criticals 32 = .ok (.ifCond .eq 20, 3) := by decide +kernel
theorem dX12_criticals_35 : decode cX12_criticals 35 = .ok (.aload_n 0, 1) := by decide +kernel
theorem dX12_criticals_36 : decode cX12_criticals 36 = .ok (.iload_n 3, 1) := by decide +kernel
theorem dX12_criticals_37 : decode cX12_criticals 37 = .ok (.invokevirtual 285, 3) := by decide +kernel
theorem dX12_criticals_40 : decode cX12_criticals 40 = .ok (.ifCond .eq 12, 3) := by decide +kernel
theorem dX12_criticals_43 : decode cX12_criticals 43 = .ok (.aload_n 0, 1) := by decide +kernel
theorem dX12_criticals_44 : decode cX12_criticals 44 = .ok (.iload_n 2, 1) := by decide +kernel
theorem dX12_criticals_45 : decode cX12_criticals 45 = .ok (.iload_n 3, 1) := by decide +kernel
theorem dX12_criticals_46 : decode cX12_criticals 46 = .ok (.invokevirtual 343, 3) := by decide +kernel
theorem dX12_criticals_49 : decode cX12_criticals 49 = .ok (.goto 4, 3) := by decide +kernel
theorem dX12_criticals_52 : decode cX12_criticals 52 = .ok (.iconst 0, 1) := by decide +kernel
theorem dX12_criticals_53 : decode cX12_criticals 53 = .ok (.istore 4, 2) := by decide +kernel
theorem dX12_criticals_55 : decode cX12_criticals 55 = .ok (.iconst 0, 1) := by decide +kernel
theorem dX12_criticals_56 : decode cX12_criticals 56 = .ok (.istore 5, 2) := by decide +kernel
theorem dX12_criticals_58 : decode cX12_criticals 58 = .ok (.iload 5, 2) := by decide +kernel
theorem dX12_criticals_60 : decode cX12_criticals 60 = .ok (.bipush 12, 2) := by decide +kernel
theorem dX12_criticals_62 : decode cX12_criticals 62 = .ok (.if_icmp .ge 19, 3) := by decide +kernel
theorem dX12_criticals_65 : decode cX12_criticals 65 = .ok (.iload_n 1, 1) := by decide +kernel
theorem dX12_criticals_66 : decode cX12_criticals 66 = .ok (.iload 4, 2) := by decide +kernel
theorem dX12_criticals_68 : decode cX12_criticals 68 = .ok (.iload 5, 2) := by decide +kernel
theorem dX12_criticals_70 : decode cX12_criticals 70 = .ok (.ishr, 1) := by decide +kernel
theorem dX12_criticals_71 : decode cX12_criticals 71 = .ok (.iconst 1, 1) := by decide +kernel
theorem dX12_criticals_72 : decode cX12_criticals 72 = .ok (.iand, 1) := by decide +kernel
theorem dX12_criticals_73 : decode cX12_criticals 73 = .ok (.iadd, 1) := by decide +kernel
theorem dX12_criticals_74 : decode cX12_criticals 74 = .ok (.istore_n 1, 1) := by decide +kernel
theorem dX12_criticals_75 : decode cX12_criticals 75 = .ok (.iinc 5 1, 3) := by decide +kernel
theorem dX12_criticals_78 : decode cX12_criticals 78 = .ok (.goto (-20), 3) := by decide +kernel
theorem dX12_criticals_81 : decode cX12_criticals 81 = .ok (.iinc 3 1, 3) := by decide +kernel
theorem dX12_criticals_84 : decode cX12_criticals 84 = .ok (.goto (-65), 3) := by decide +kernel
theorem dX12_criticals_87 : decode cX12_criticals 87 = .ok (.iinc 2 1, 3) := by decide +kernel
theorem dX12_criticals_90 : decode cX12_criticals 90 = .ok (.goto (-81), 3) := by decide +kernel
theorem dX12_criticals_93 : decode cX12_criticals 93 = .ok (.iload_n 1, 1) := by decide +kernel
theorem dX12_criticals_94 : decode cX12_criticals 94 = .ok (.ireturn, 1) := by decide +kernel
set_option maxHeartbeats 4000000 in
set_option maxRecDepth 100000 in
theorem jw_X12_criticals_58 {p : Program} {l : Launch} {e : Env} {s : State} {m : MethodId} {args : Array Value} {below : List Frame} {meth : Method} {c : Code} {D : xD} {ty : xTy} {k9 : Nat → Int32 → Int32 → xH → Option (Int32 × xH)} {k19 : Nat → Int32 → Int32 → Int32 → xH → Option (Int32 × xH)} (C0 : xC D RX12 cX12_criticals 6 (some .int) p s m args meth c) {r : Int32} {h9 : xH} (hk9 : ∀ (v0 : Nat) (v1 : Int32) (v2 : Int32) (h : xH), ty v0 = some (0, 12) → k9 v0 v1 v2 h = some (r, h9) → ∀ (H : Heap) (locs : List Loc), xRep D ty h H → xS ty s.heap H locs → ∀ ls : Array Slot, lv_has ls 6 [(0, .ref v0), (1, .int v1), (2, .int v2)] → W p l e jr_X12_criticals s m args below meth c H locs 0 0 (MQ below (xQ D ty (some (.int r)) h9) args s 0 0 (xdom ty)) (F0 m 9 ls [])) (hk19 : ∀ (v0 : Nat) (v1 : Int32) (v2 : Int32) (v3 : Int32) (h : xH), ty v0 = some (0, 12) → k19 v0 v1 v2 v3 h = some (r, h9) → ∀ (H : Heap) (locs : List Loc), xRep D ty h H → xS ty s.heap H locs → ∀ ls : Array Slot, lv_has ls 6 [(0, .ref v0), (1, .int v1), (2, .int v2), (3, .int v3)] → W p l e jr_X12_criticals s m args below meth c H locs 0 0 (MQ below (xQ D ty (some (.int r)) h9) args s 0 0 (xdom ty)) (F0 m 19 ls [])) : ∀ n : Nat, ∀ (v0 : Nat) (v1 : Int32) (v2 : Int32) (v3 : Int32) (v4 : Int32) (v5 : Int32) (h : xH), ty v0 = some (0, 12) → jf_X12_criticals_58 ty k9 k19 n v0 v1 v2 v3 v4 v5 h = some (r, h9) → ∀ (H : Heap) (locs : List Loc), xRep D ty h H → xS ty s.heap H locs → ∀ ls : Array Slot, lv_has ls 6 [(0, .ref v0), (1, .int v1), (2, .int v2), (3, .int v3), (4, .int v4), (5, .int v5)] → W p l e jr_X12_criticals s m args below meth c H locs 0 0 (MQ below (xQ D ty (some (.int r)) h9) args s 0 0 (xdom ty)) (F0 m 58 ls []) := by
  have hx := C0.1
  have hb := C0.2.1
  have hown := C0.2.2.2.2.2.1
  have hts := C0.2.2.2.2.2.2.1
  intro n
  induction n with
  | zero =>
    intro v0 v1 v2 v3 v4 v5 h t_v0 hF H locs hR hS ls hl
    cases hF
  | succ n ih =>
    intro v0 v1 v2 v3 v4 v5 h t_v0 hF H locs hR hS ls hl
    rw [jf_X12_criticals_58_s] at hF
    refine lv_iload hx hb dX12_criticals_58 (lv_at hl 5 rfl) ?_
    refine lv_bipush (v := 12) hx hb dX12_criticals_60 (by decide) ?_
    refine lv_icmp_ge (tgt := 81) hx hb dX12_criticals_62 (by decide) (fun c1 => ?_) (fun c1 => ?_)
    · have hF := xif hF c1
      refine lv_iinc (v := v3 + 1) (lv' := [(3, .int (v3 + 1)), (0, .ref v0), (1, .int v1), (2, .int v2), (4, .int v4), (5, .int v5)]) hx hb dX12_criticals_81 hl (k := 3) rfl rfl (by decide) rfl (fun ls hl => ?_)
      refine lv_goto (tgt := 19) hx hb dX12_criticals_84 (by decide) ?_
      exact hk19 _ _ _ _ _ t_v0 hF _ _ hR hS _ (lv_sub hl [1, 2, 3, 0] rfl)
    · have hF := xel hF c1
      refine lv_iload_n hx hb dX12_criticals_65 rfl (lv_at hl 1 rfl) ?_
      refine lv_iload hx hb dX12_criticals_66 (lv_at hl 4 rfl) ?_
      refine lv_iload hx hb dX12_criticals_68 (lv_at hl 5 rfl) ?_
      refine lv_ishr hx hb dX12_criticals_70 ?_
      refine lv_iconst (v := 1) hx hb dX12_criticals_71 (by decide) ?_
      refine lv_iand hx hb dX12_criticals_72 ?_
      refine lv_iadd hx hb dX12_criticals_73 ?_
      refine lv_istore_n (lv' := [(1, .int (v1 + ((v4 >>> (v5 &&& 31)) &&& 1))), (0, .ref v0), (2, .int v2), (3, .int v3), (4, .int v4), (5, .int v5)]) hx hb dX12_criticals_74 rfl hl (by decide) rfl (fun ls hl => ?_)
      refine lv_iinc (v := v5 + 1) (lv' := [(5, .int (v5 + 1)), (1, .int (v1 + ((v4 >>> (v5 &&& 31)) &&& 1))), (0, .ref v0), (2, .int v2), (3, .int v3), (4, .int v4)]) hx hb dX12_criticals_75 hl (k := 5) rfl rfl (by decide) rfl (fun ls hl => ?_)
      refine lv_goto (tgt := 58) hx hb dX12_criticals_78 (by decide) ?_
      exact ih _ _ _ _ _ _ _ t_v0 hF _ _ hR hS _ (lv_sub hl [2, 1, 3, 4, 5, 0] rfl)
set_option maxHeartbeats 4000000 in
set_option maxRecDepth 100000 in
theorem jw_X12_criticals_19 {p : Program} {l : Launch} {e : Env} {s : State} {m : MethodId} {args : Array Value} {below : List Frame} {meth : Method} {c : Code} {D : xD} {ty : xTy} {k9 : Nat → Int32 → Int32 → xH → Option (Int32 × xH)} (C0 : xC D RX12 cX12_criticals 6 (some .int) p s m args meth c) {r : Int32} {h9 : xH} (hk9 : ∀ (v0 : Nat) (v1 : Int32) (v2 : Int32) (h : xH), ty v0 = some (0, 12) → k9 v0 v1 v2 h = some (r, h9) → ∀ (H : Heap) (locs : List Loc), xRep D ty h H → xS ty s.heap H locs → ∀ ls : Array Slot, lv_has ls 6 [(0, .ref v0), (1, .int v1), (2, .int v2)] → W p l e jr_X12_criticals s m args below meth c H locs 0 0 (MQ below (xQ D ty (some (.int r)) h9) args s 0 0 (xdom ty)) (F0 m 9 ls [])) : ∀ n : Nat, ∀ (v0 : Nat) (v1 : Int32) (v2 : Int32) (v3 : Int32) (h : xH), ty v0 = some (0, 12) → jf_X12_criticals_19 ty k9 n v0 v1 v2 v3 h = some (r, h9) → ∀ (H : Heap) (locs : List Loc), xRep D ty h H → xS ty s.heap H locs → ∀ ls : Array Slot, lv_has ls 6 [(0, .ref v0), (1, .int v1), (2, .int v2), (3, .int v3)] → W p l e jr_X12_criticals s m args below meth c H locs 0 0 (MQ below (xQ D ty (some (.int r)) h9) args s 0 0 (xdom ty)) (F0 m 19 ls []) := by
  have hx := C0.1
  have hb := C0.2.1
  have hown := C0.2.2.2.2.2.1
  have hts := C0.2.2.2.2.2.2.1
  intro n
  induction n with
  | zero =>
    intro v0 v1 v2 v3 h t_v0 hF H locs hR hS ls hl
    cases hF
  | succ n ih =>
    intro v0 v1 v2 v3 h t_v0 hF H locs hR hS ls hl
    rw [jf_X12_criticals_19_s] at hF
    refine lv_iload_n hx hb dX12_criticals_19 rfl (lv_at hl 3 rfl) ?_
    refine lv_aload_n hx hb dX12_criticals_20 rfl (lv_at hl 0 rfl) ?_
    refine gf_X12_178 C0 hR t_v0 dX12_criticals_21 ?_
    refine lv_icmp_ge (tgt := 87) hx hb dX12_criticals_24 (by decide) (fun c2 => ?_) (fun c2 => ?_)
    · have hF := xif hF c2
      refine lv_iinc (v := v2 + 1) (lv' := [(2, .int (v2 + 1)), (0, .ref v0), (1, .int v1), (3, .int v3)]) hx hb dX12_criticals_87 hl (k := 2) rfl rfl (by decide) rfl (fun ls hl => ?_)
      refine lv_goto (tgt := 9) hx hb dX12_criticals_90 (by decide) ?_
      exact hk9 _ _ _ _ t_v0 hF _ _ hR hS _ (lv_sub hl [1, 2, 0] rfl)
    · have hF := xel hF c2
      refine lv_aload_n hx hb dX12_criticals_27 rfl (lv_at hl 0 rfl) ?_
      refine lv_iload_n hx hb dX12_criticals_28 rfl (lv_at hl 2 rfl) ?_
      obtain ⟨a3, e_a3, hF⟩ := xbd hF
      refine cl_X12_285 C0 hR hS e_a3 t_v0 ⟨(Nat.le_of_ble_eq_true rfl), (Nat.le_of_ble_eq_true rfl)⟩ hl.1 (Nat.le_of_ble_eq_true rfl) ⟨(Nat.le_of_ble_eq_true rfl), (Nat.le_of_ble_eq_true rfl)⟩ dX12_criticals_29 (fun H locs hR hS => ?_)
      refine lv_if_eq (tgt := 52) hx hb dX12_criticals_32 (by decide) (fun c4 => ?_) (fun c4 => ?_)
      · have hF := xif hF c4
        refine lv_iconst (v := 0) hx hb dX12_criticals_52 (by decide) ?_
        refine lv_istore (lv' := [(4, .int 0), (0, .ref v0), (1, .int v1), (2, .int v2), (3, .int v3)]) hx hb dX12_criticals_53 hl (by decide) rfl (fun ls hl => ?_)
        refine lv_iconst (v := 0) hx hb dX12_criticals_55 (by decide) ?_
        refine lv_istore (lv' := [(5, .int 0), (4, .int 0), (0, .ref v0), (1, .int v1), (2, .int v2), (3, .int v3)]) hx hb dX12_criticals_56 hl (by decide) rfl (fun ls hl => ?_)
        obtain ⟨_, hF⟩ := xlim_sp hF
        exact jw_X12_criticals_58 C0 hk9 ih _ _ _ _ _ _ _ _ t_v0 hF _ _ hR hS _ (lv_sub hl [2, 3, 4, 5, 1, 0] rfl)
      · have hF := xel hF c4
        refine lv_aload_n hx hb dX12_criticals_35 rfl (lv_at hl 0 rfl) ?_
        refine lv_iload_n hx hb dX12_criticals_36 rfl (lv_at hl 3 rfl) ?_
        obtain ⟨a5, e_a5, hF⟩ := xbd hF
        refine cl_X12_285 C0 hR hS e_a5 t_v0 ⟨(Nat.le_of_ble_eq_true rfl), (Nat.le_of_ble_eq_true rfl)⟩ hl.1 (Nat.le_of_ble_eq_true rfl) ⟨(Nat.le_of_ble_eq_true rfl), (Nat.le_of_ble_eq_true rfl)⟩ dX12_criticals_37 (fun H locs hR hS => ?_)
        refine lv_if_eq (tgt := 52) hx hb dX12_criticals_40 (by decide) (fun c6 => ?_) (fun c6 => ?_)
        · have hF := xif hF c6
          refine lv_iconst (v := 0) hx hb dX12_criticals_52 (by decide) ?_
          refine lv_istore (lv' := [(4, .int 0), (0, .ref v0), (1, .int v1), (2, .int v2), (3, .int v3)]) hx hb dX12_criticals_53 hl (by decide) rfl (fun ls hl => ?_)
          refine lv_iconst (v := 0) hx hb dX12_criticals_55 (by decide) ?_
          refine lv_istore (lv' := [(5, .int 0), (4, .int 0), (0, .ref v0), (1, .int v1), (2, .int v2), (3, .int v3)]) hx hb dX12_criticals_56 hl (by decide) rfl (fun ls hl => ?_)
          obtain ⟨_, hF⟩ := xlim_sp hF
          exact jw_X12_criticals_58 C0 hk9 ih _ _ _ _ _ _ _ _ t_v0 hF _ _ hR hS _ (lv_sub hl [2, 3, 4, 5, 1, 0] rfl)
        · have hF := xel hF c6
          refine lv_aload_n hx hb dX12_criticals_43 rfl (lv_at hl 0 rfl) ?_
          refine lv_iload_n hx hb dX12_criticals_44 rfl (lv_at hl 2 rfl) ?_
          refine lv_iload_n hx hb dX12_criticals_45 rfl (lv_at hl 3 rfl) ?_
          obtain ⟨a8, h7, e_h7, hF⟩ := xbd2 hF
          refine cl_X12_343 C0 hR hS e_h7 t_v0 ⟨(Nat.le_of_ble_eq_true rfl), (Nat.le_of_ble_eq_true rfl)⟩ hl.1 (Nat.le_of_ble_eq_true rfl) ⟨(Nat.le_of_ble_eq_true rfl), (Nat.le_of_ble_eq_true rfl)⟩ dX12_criticals_46 (fun H locs hR hS => ?_)
          refine lv_goto (tgt := 53) hx hb dX12_criticals_49 (by decide) ?_
          refine lv_istore (lv' := [(4, .int a8), (0, .ref v0), (1, .int v1), (2, .int v2), (3, .int v3)]) hx hb dX12_criticals_53 hl (by decide) rfl (fun ls hl => ?_)
          refine lv_iconst (v := 0) hx hb dX12_criticals_55 (by decide) ?_
          refine lv_istore (lv' := [(5, .int 0), (4, .int a8), (0, .ref v0), (1, .int v1), (2, .int v2), (3, .int v3)]) hx hb dX12_criticals_56 hl (by decide) rfl (fun ls hl => ?_)
          obtain ⟨_, hF⟩ := xlim_sp hF
          exact jw_X12_criticals_58 C0 hk9 ih _ _ _ _ _ _ _ _ t_v0 hF _ _ hR hS _ (lv_sub hl [2, 3, 4, 5, 1, 0] rfl)
set_option maxHeartbeats 4000000 in
set_option maxRecDepth 100000 in
theorem jw_X12_criticals_9 {p : Program} {l : Launch} {e : Env} {s : State} {m : MethodId} {args : Array Value} {below : List Frame} {meth : Method} {c : Code} {D : xD} {ty : xTy} (C0 : xC D RX12 cX12_criticals 6 (some .int) p s m args meth c) {r : Int32} {h9 : xH} : ∀ n : Nat, ∀ (v0 : Nat) (v1 : Int32) (v2 : Int32) (h : xH), ty v0 = some (0, 12) → jf_X12_criticals_9 ty n v0 v1 v2 h = some (r, h9) → ∀ (H : Heap) (locs : List Loc), xRep D ty h H → xS ty s.heap H locs → ∀ ls : Array Slot, lv_has ls 6 [(0, .ref v0), (1, .int v1), (2, .int v2)] → W p l e jr_X12_criticals s m args below meth c H locs 0 0 (MQ below (xQ D ty (some (.int r)) h9) args s 0 0 (xdom ty)) (F0 m 9 ls []) := by
  have hx := C0.1
  have hb := C0.2.1
  have hown := C0.2.2.2.2.2.1
  have hts := C0.2.2.2.2.2.2.1
  intro n
  induction n with
  | zero =>
    intro v0 v1 v2 h t_v0 hF H locs hR hS ls hl
    cases hF
  | succ n ih =>
    intro v0 v1 v2 h t_v0 hF H locs hR hS ls hl
    rw [jf_X12_criticals_9_s] at hF
    refine lv_iload_n hx hb dX12_criticals_9 rfl (lv_at hl 2 rfl) ?_
    refine lv_aload_n hx hb dX12_criticals_10 rfl (lv_at hl 0 rfl) ?_
    refine gf_X12_178 C0 hR t_v0 dX12_criticals_11 ?_
    refine lv_icmp_ge (tgt := 93) hx hb dX12_criticals_14 (by decide) (fun c9 => ?_) (fun c9 => ?_)
    · have hF := xif hF c9
      refine lv_iload_n hx hb dX12_criticals_93 rfl (lv_at hl 1 rfl) ?_
      cases hF
      exact x_iret C0 hR hS dX12_criticals_94
    · have hF := xel hF c9
      refine lv_iconst (v := 0) hx hb dX12_criticals_17 (by decide) ?_
      refine lv_istore_n (lv' := [(3, .int 0), (0, .ref v0), (1, .int v1), (2, .int v2)]) hx hb dX12_criticals_18 rfl hl (by decide) rfl (fun ls hl => ?_)
      obtain ⟨_, hF⟩ := xlim_sp hF
      exact jw_X12_criticals_19 C0 ih _ _ _ _ _ _ t_v0 hF _ _ hR hS _ (lv_sub hl [1, 2, 3, 0] rfl)
set_option maxHeartbeats 4000000 in
set_option maxRecDepth 100000 in
theorem jc_X12_criticals {l : Launch} {D : xD} {ty : xTy} {h : xH} {v0 : Nat} {r : Int32} {h9 : xH} (t_v0 : ty v0 = some (0, 12)) (hF : jf_X12_criticals ty h v0 = some (r, h9)) : Met l yX12_criticals (xws yX12_criticals cX12_criticals 6 (some .int)) jr_X12_criticals (xPc D ty h [.ref v0]) (xQ D ty (some (.int r)) h9) 0 0 (xdom ty) := by
  refine x_met (by decide) ?_
  intro p e s m below meth c C0 hR
  generalize hargs : ([.ref v0] : List Value).toArray = args at C0 ⊢
  have hx := C0.1
  have hb := C0.2.1
  have hown := C0.2.2.2.2.2.1
  have hts := C0.2.2.2.2.2.2.1
  have hS : xS ty s.heap s.heap [] := xS.rf
  have hl := lv_entry ([.ref v0]) (n := 6) (Nat.le_of_ble_eq_true rfl)
  rw [← hargs, lg_entry_eq]
  rw [hargs]
  generalize (lg_sl ([.ref v0]) ++ List.replicate (6 - (lg_sl ([.ref v0])).length) Slot.unset).toArray = ls at hl ⊢
  have hl : lv_has ls 6 [(0, .ref v0)] := hl
  unfold jf_X12_criticals at hF
  refine lv_aload_n hx hb dX12_criticals_0 rfl (lv_at hl 0 rfl) ?_
  refine lv_iconst (v := 0) hx hb dX12_criticals_1 (by decide) ?_
  obtain ⟨h10, e_h10, hF⟩ := xbd hF
  refine pf_X12_101 C0 hR hS t_v0 dX12_criticals_2 (fun H locs hR hS => ?_)
  rw [Option.some.inj e_h10] at hR
  refine lv_iconst (v := 0) hx hb dX12_criticals_5 (by decide) ?_
  refine lv_istore_n (lv' := [(1, .int 0), (0, .ref v0)]) hx hb dX12_criticals_6 rfl hl (by decide) rfl (fun ls hl => ?_)
  refine lv_iconst (v := 0) hx hb dX12_criticals_7 (by decide) ?_
  refine lv_istore_n (lv' := [(2, .int 0), (1, .int 0), (0, .ref v0)]) hx hb dX12_criticals_8 rfl hl (by decide) rfl (fun ls hl => ?_)
  obtain ⟨_, hF⟩ := xlim_sp hF
  exact jw_X12_criticals_9 C0 _ _ _ _ _ t_v0 hF _ _ hR hS _ (lv_sub hl [2, 1, 0] rfl)
theorem xm_X12_criticals : xMw yX12_criticals cX12_criticals 6 (some .int) 0 := ⟨xin 1756 (by decide +kernel) rfl, xin 126 (by decide +kernel) rfl, by decide +kernel⟩
theorem xi_X12_criticals : Cond.instanceMethod yX12_criticals ∈ xT := xin 1754 (by decide +kernel) rfl
theorem xe_X12_criticals : Cond.selects yX12_criticals.cls yX12_criticals yX12_criticals ∈ xT := xin 1755 (by decide +kernel) rfl
theorem dX12_critical_0 : decode cX12_critical 0 = .ok (.aload_n 0, 1) := by decide +kernel
theorem dX12_critical_1 : decode cX12_critical 1 = .ok (.iconst 0, 1) := by decide +kernel
theorem dX12_critical_2 : decode cX12_critical 2 = .ok (.putfield 101, 3) := by decide +kernel
theorem dX12_critical_5 : decode cX12_critical 5 = .ok (.aload_n 0, 1) := by decide +kernel
theorem dX12_critical_6 : decode cX12_critical 6 = .ok (.iload_n 1, 1) := by decide +kernel
theorem dX12_critical_7 : decode cX12_critical 7 = .ok (.invokevirtual 282, 3) := by decide +kernel
theorem dX12_critical_10 : decode cX12_critical 10 = .ok (.ifCond .eq 30, 3) := by decide +kernel
theorem dX12_critical_13 : decode cX12_critical 13 = .ok (.aload_n 0, 1) := by decide +kernel
theorem dX12_critical_14 : decode cX12_critical 14 = .ok (.iload_n 2, 1) := by decide +kernel
theorem dX12_critical_15 : decode cX12_critical 15 = .ok (.invokevirtual 282, 3) := by decide +kernel
theorem dX12_critical_18 : decode cX12_critical 18 = .ok (.ifCond .eq 22, 3) := by decide +kernel
theorem dX12_critical_21 : decode cX12_critical 21 = .ok (.iload_n 3, 1) := by decide +kernel
theorem dX12_critical_22 : decode cX12_critical 22 = .ok (.ifCond .lt 18, 3) := by decide +kernel
theorem dX12_critical_25 : decode cX12_critical 25 = .ok (.iload_n 3, 1) := by decide +kernel
theorem dX12_critical_26 : decode cX12_critical 26 = .ok (.aload_n 0, 1) := by decide +kernel
theorem dX12_critical_27 : decode cX12_critical 27 = .ok (.getfield 32, 3) := by decide +kernel
theorem dX12_critical_30 : decode cX12_critical 30 = .ok (.iload_n 1, 1) := by decide +kernel
theorem dX12_critical_31 : decode cX12_critical 31 = .ok (.iaload, 1) := by decide +kernel
theorem dX12_critical_32 : decode cX12_critical 32 = .ok (.if_icmp .ge 8, 3) := by decide +kernel
theorem dX12_critical_35 : decode cX12_critical 35 = .ok (.iload 4, 2) := by decide +kernel
theorem dX12_critical_37 : decode cX12_critical 37 = .ok (.ifCond .ge 5, 3) := by decide +kernel
theorem dX12_critical_40 : decode cX12_critical 40 = .ok (.iconst (-1), 1) := by decide +kernel
theorem dX12_critical_41 : decode cX12_critical 41 = .ok (.ireturn, 1) := by decide +kernel
theorem dX12_critical_42 : decode cX12_critical 42 = .ok (.aload_n 0, 1) := by decide +kernel
theorem dX12_critical_43 : decode cX12_critical 43 = .ok (.iload_n 1, 1) := by decide +kernel
theorem dX12_critical_44 : decode cX12_critical 44 = .ok (.iload_n 2, 1) := by decide +kernel
theorem dX12_critical_45 : decode cX12_critical 45 = .ok (.iload_n 3, 1) := by decide +kernel
theorem dX12_critical_46 : decode cX12_critical 46 = .ok (.invokevirtual 340, 3) := by decide +kernel
theorem dX12_critical_49 : decode cX12_critical 49 = .ok (.ifCond .eq 11, 3) := by decide +kernel
theorem dX12_critical_52 : decode cX12_critical 52 = .ok (.aload_n 0, 1) := by decide +kernel
theorem dX12_critical_53 : decode cX12_critical 53 = .ok (.iconst 0, 1) := by decide +kernel
theorem dX12_critical_54 : decode cX12_critical 54 = .ok (.invokevirtual 334, 3) := by decide +kernel
theorem dX12_critical_57 : decode cX12_critical 57 = .ok (.ifCond .ne 6, 3) := by decide +kernel
theorem dX12_critical_60 : decode cX12_critical 60 = .ok (.bipush (-2), 2) := by decide +kernel
theorem dX12_critical_62 : decode cX12_critical 62 = .ok (.ireturn, 1) := by decide +kernel
theorem dX12_critical_63 : decode cX12_critical 63 = .ok (.iload 4, 2) := by decide +kernel
theorem dX12_critical_65 : decode cX12_critical 65 = .ok (.aload_n 0, 1) := by decide +kernel
theorem dX12_critical_66 : decode cX12_critical 66 = .ok (.getfield 257, 3) := by decide +kernel
theorem dX12_critical_69 : decode cX12_critical 69 = .ok (.if_icmp .ge 13, 3) := by decide +kernel
theorem dX12_critical_72 : decode cX12_critical 72 = .ok (.aload_n 0, 1) := by decide +kernel
theorem dX12_critical_73 : decode cX12_critical 73 = .ok (.getfield 68, 3) := by decide +kernel
theorem dX12_critical_76 : decode cX12_critical 76 = .ok (.iload 4, 2) := by decide +kernel
theorem dX12_critical_78 : decode cX12_critical 78 = .ok (.iaload, 1) := by decide +kernel
theorem dX12_critical_79 : decode cX12_critical 79 = .ok (.goto 5, 3) := by decide +kernel
theorem dX12_critical_82 : decode cX12_critical 82 = .ok (.bipush (-2), 2) := by decide +kernel
theorem dX12_critical_84 : decode cX12_critical 84 = .ok (.ireturn, 1) := by decide +kernel
set_option maxHeartbeats 4000000 in
set_option maxRecDepth 100000 in
theorem jc_X12_critical {l : Launch} {D : xD} {ty : xTy} {h : xH} {v0 : Nat} {v1 : Int32} {v2 : Int32} {v3 : Int32} {v4 : Int32} {r : Int32} {h9 : xH} (t_v0 : ty v0 = some (0, 12)) (hF : jf_X12_critical ty h v0 v1 v2 v3 v4 = some (r, h9)) : Met l yX12_critical (xws yX12_critical cX12_critical 5 (some .int)) jr_X12_critical (xPc D ty h [.ref v0, .int v1, .int v2, .int v3, .int v4]) (xQ D ty (some (.int r)) h9) 0 0 (xdom ty) := by
  refine x_met (by decide) ?_
  intro p e s m below meth c C0 hR
  generalize hargs : ([.ref v0, .int v1, .int v2, .int v3, .int v4] : List Value).toArray = args at C0 ⊢
  have hx := C0.1
  have hb := C0.2.1
  have hown := C0.2.2.2.2.2.1
  have hts := C0.2.2.2.2.2.2.1
  have hS : xS ty s.heap s.heap [] := xS.rf
  have hl := lv_entry ([.ref v0, .int v1, .int v2, .int v3, .int v4]) (n := 5) (Nat.le_of_ble_eq_true rfl)
  rw [← hargs, lg_entry_eq]
  rw [hargs]
  generalize (lg_sl ([.ref v0, .int v1, .int v2, .int v3, .int v4]) ++ List.replicate (5 - (lg_sl ([.ref v0, .int v1, .int v2, .int v3, .int v4])).length) Slot.unset).toArray = ls at hl ⊢
  have hl : lv_has ls 5 [(0, .ref v0), (1, .int v1), (2, .int v2), (3, .int v3), (4, .int v4)] := hl
  unfold jf_X12_critical at hF
  refine lv_aload_n hx hb dX12_critical_0 rfl (lv_at hl 0 rfl) ?_
  refine lv_iconst (v := 0) hx hb dX12_critical_1 (by decide) ?_
  obtain ⟨h1, e_h1, hF⟩ := xbd hF
  refine pf_X12_101 C0 hR hS t_v0 dX12_critical_2 (fun H locs hR hS => ?_)
  rw [Option.some.inj e_h1] at hR
  refine lv_aload_n hx hb dX12_critical_5 rfl (lv_at hl 0 rfl) ?_
  refine lv_iload_n hx hb dX12_critical_6 rfl (lv_at hl 1 rfl) ?_
  obtain ⟨a2, e_a2, hF⟩ := xbd hF
  refine cl_X12_282 C0 hR hS e_a2 t_v0 ⟨(Nat.le_of_ble_eq_true rfl), (Nat.le_of_ble_eq_true rfl)⟩ hl.1 (Nat.le_of_ble_eq_true rfl) ⟨(Nat.le_of_ble_eq_true rfl), (Nat.le_of_ble_eq_true rfl)⟩ dX12_critical_7 (fun H locs hR hS => ?_)
  refine lv_if_eq (tgt := 40) hx hb dX12_critical_10 (by decide) (fun c3 => ?_) (fun c3 => ?_)
  · have hF := xif hF c3
    refine lv_iconst (v := (-1)) hx hb dX12_critical_40 (by decide) ?_
    cases hF
    exact x_iret C0 hR hS dX12_critical_41
  · have hF := xel hF c3
    refine lv_aload_n hx hb dX12_critical_13 rfl (lv_at hl 0 rfl) ?_
    refine lv_iload_n hx hb dX12_critical_14 rfl (lv_at hl 2 rfl) ?_
    obtain ⟨a4, e_a4, hF⟩ := xbd hF
    refine cl_X12_282 C0 hR hS e_a4 t_v0 ⟨(Nat.le_of_ble_eq_true rfl), (Nat.le_of_ble_eq_true rfl)⟩ hl.1 (Nat.le_of_ble_eq_true rfl) ⟨(Nat.le_of_ble_eq_true rfl), (Nat.le_of_ble_eq_true rfl)⟩ dX12_critical_15 (fun H locs hR hS => ?_)
    refine lv_if_eq (tgt := 40) hx hb dX12_critical_18 (by decide) (fun c5 => ?_) (fun c5 => ?_)
    · have hF := xif hF c5
      refine lv_iconst (v := (-1)) hx hb dX12_critical_40 (by decide) ?_
      cases hF
      exact x_iret C0 hR hS dX12_critical_41
    · have hF := xel hF c5
      refine lv_iload_n hx hb dX12_critical_21 rfl (lv_at hl 3 rfl) ?_
      refine lv_if_lt (tgt := 40) hx hb dX12_critical_22 (by decide) (fun c6 => ?_) (fun c6 => ?_)
      · have hF := xif hF c6
        refine lv_iconst (v := (-1)) hx hb dX12_critical_40 (by decide) ?_
        cases hF
        exact x_iret C0 hR hS dX12_critical_41
      · have hF := xel hF c6
        refine lv_iload_n hx hb dX12_critical_25 rfl (lv_at hl 3 rfl) ?_
        refine lv_aload_n hx hb dX12_critical_26 rfl (lv_at hl 0 rfl) ?_
        obtain ⟨a7, e_a7, hF⟩ := xbd hF
        refine gf_X12_32 C0 hR t_v0 e_a7 dX12_critical_27 ?_
        refine lv_iload_n hx hb dX12_critical_30 rfl (lv_at hl 1 rfl) ?_
        obtain ⟨a8, e_a8, hF⟩ := xbd hF
        refine x_iald C0 hR e_a8 dX12_critical_31 ?_
        refine lv_icmp_ge (tgt := 40) hx hb dX12_critical_32 (by decide) (fun c9 => ?_) (fun c9 => ?_)
        · have hF := xif hF c9
          refine lv_iconst (v := (-1)) hx hb dX12_critical_40 (by decide) ?_
          cases hF
          exact x_iret C0 hR hS dX12_critical_41
        · have hF := xel hF c9
          refine lv_iload hx hb dX12_critical_35 (lv_at hl 4 rfl) ?_
          refine lv_if_ge (tgt := 42) hx hb dX12_critical_37 (by decide) (fun c10 => ?_) (fun c10 => ?_)
          · have hF := xif hF c10
            refine lv_aload_n hx hb dX12_critical_42 rfl (lv_at hl 0 rfl) ?_
            refine lv_iload_n hx hb dX12_critical_43 rfl (lv_at hl 1 rfl) ?_
            refine lv_iload_n hx hb dX12_critical_44 rfl (lv_at hl 2 rfl) ?_
            refine lv_iload_n hx hb dX12_critical_45 rfl (lv_at hl 3 rfl) ?_
            obtain ⟨a12, h11, e_h11, hF⟩ := xbd2 hF
            refine cl_X12_340 C0 hR hS e_h11 t_v0 ⟨(Nat.le_of_ble_eq_true rfl), (Nat.le_of_ble_eq_true rfl)⟩ hl.1 (Nat.le_of_ble_eq_true rfl) ⟨(Nat.le_of_ble_eq_true rfl), (Nat.le_of_ble_eq_true rfl)⟩ dX12_critical_46 (fun H locs hR hS => ?_)
            refine lv_if_eq (tgt := 60) hx hb dX12_critical_49 (by decide) (fun c13 => ?_) (fun c13 => ?_)
            · have hF := xif hF c13
              refine lv_bipush (v := (-2)) hx hb dX12_critical_60 (by decide) ?_
              cases hF
              exact x_iret C0 hR hS dX12_critical_62
            · have hF := xel hF c13
              refine lv_aload_n hx hb dX12_critical_52 rfl (lv_at hl 0 rfl) ?_
              refine lv_iconst (v := 0) hx hb dX12_critical_53 (by decide) ?_
              obtain ⟨a15, h14, e_h14, hF⟩ := xbd2 hF
              refine cl_X12_334 C0 hR hS e_h14 t_v0 ⟨(Nat.le_of_ble_eq_true rfl), (Nat.le_of_ble_eq_true rfl)⟩ hl.1 (Nat.le_of_ble_eq_true rfl) ⟨(Nat.le_of_ble_eq_true rfl), (Nat.le_of_ble_eq_true rfl)⟩ dX12_critical_54 (fun H locs hR hS => ?_)
              refine lv_if_ne (tgt := 63) hx hb dX12_critical_57 (by decide) (fun c16 => ?_) (fun c16 => ?_)
              · have hF := xel hF c16
                refine lv_iload hx hb dX12_critical_63 (lv_at hl 4 rfl) ?_
                refine lv_aload_n hx hb dX12_critical_65 rfl (lv_at hl 0 rfl) ?_
                refine gf_X12_257 C0 hR t_v0 dX12_critical_66 ?_
                refine lv_icmp_ge (tgt := 82) hx hb dX12_critical_69 (by decide) (fun c17 => ?_) (fun c17 => ?_)
                · have hF := xif hF c17
                  refine lv_bipush (v := (-2)) hx hb dX12_critical_82 (by decide) ?_
                  cases hF
                  exact x_iret C0 hR hS dX12_critical_84
                · have hF := xel hF c17
                  refine lv_aload_n hx hb dX12_critical_72 rfl (lv_at hl 0 rfl) ?_
                  obtain ⟨a18, e_a18, hF⟩ := xbd hF
                  refine gf_X12_68 C0 hR t_v0 e_a18 dX12_critical_73 ?_
                  refine lv_iload hx hb dX12_critical_76 (lv_at hl 4 rfl) ?_
                  obtain ⟨a19, e_a19, hF⟩ := xbd hF
                  refine x_iald C0 hR e_a19 dX12_critical_78 ?_
                  refine lv_goto (tgt := 84) hx hb dX12_critical_79 (by decide) ?_
                  cases hF
                  exact x_iret C0 hR hS dX12_critical_84
              · have hF := xif hF c16
                refine lv_bipush (v := (-2)) hx hb dX12_critical_60 (by decide) ?_
                cases hF
                exact x_iret C0 hR hS dX12_critical_62
          · have hF := xel hF c10
            refine lv_iconst (v := (-1)) hx hb dX12_critical_40 (by decide) ?_
            cases hF
            exact x_iret C0 hR hS dX12_critical_41
theorem xm_X12_critical : xMw yX12_critical cX12_critical 5 (some .int) 4 := ⟨xin 1760 (by decide +kernel) rfl, xin 126 (by decide +kernel) rfl, by decide +kernel⟩
theorem xi_X12_critical : Cond.instanceMethod yX12_critical ∈ xT := xin 1758 (by decide +kernel) rfl
theorem xe_X12_critical : Cond.selects yX12_critical.cls yX12_critical yX12_critical ∈ xT := xin 1759 (by decide +kernel) rfl
theorem dX12_shared_0 : decode cX12_shared 0 = .ok (.aload_n 0, 1) := by decide +kernel
theorem dX12_shared_1 : decode cX12_shared 1 = .ok (.iconst 0, 1) := by decide +kernel
theorem dX12_shared_2 : decode cX12_shared 2 = .ok (.putfield 101, 3) := by decide +kernel
theorem dX12_shared_5 : decode cX12_shared 5 = .ok (.aload_n 0, 1) := by decide +kernel
theorem dX12_shared_6 : decode cX12_shared 6 = .ok (.iload_n 1, 1) := by decide +kernel
theorem dX12_shared_7 : decode cX12_shared 7 = .ok (.invokevirtual 282, 3) := by decide +kernel
theorem dX12_shared_10 : decode cX12_shared 10 = .ok (.ifCond .eq 20, 3) := by decide +kernel
theorem dX12_shared_13 : decode cX12_shared 13 = .ok (.aload_n 0, 1) := by decide +kernel
theorem dX12_shared_14 : decode cX12_shared 14 = .ok (.iload_n 2, 1) := by decide +kernel
theorem dX12_shared_15 : decode cX12_shared 15 = .ok (.invokevirtual 282, 3) := by decide +kernel
theorem dX12_shared_18 : decode cX12_shared 18 = .ok (.ifCond .eq 12, 3) := by decide +kernel
theorem dX12_shared_21 : decode cX12_shared 21 = .ok (.aload_n 0, 1) := by decide +kernel
theorem dX12_shared_22 : decode cX12_shared 22 = .ok (.iload_n 1, 1) := by decide +kernel
theorem dX12_shared_23 : decode cX12_shared 23 = .ok (.iload_n 2, 1) := by decide +kernel
theorem dX12_shared_24 : decode cX12_shared 24 = .ok (.invokevirtual 294, 3) := by decide +kernel
theorem dX12_shared_27 : decode cX12_shared 27 = .ok (.goto 4, 3) := by decide +kernel
theorem dX12_shared_30 : decode cX12_shared 30 = .ok (.iconst (-1), 1) := by decide +kernel
theorem dX12_shared_31 : decode cX12_shared 31 = .ok (.ireturn, 1) := by decide +kernel
set_option maxHeartbeats 4000000 in
set_option maxRecDepth 100000 in
theorem jc_X12_shared {l : Launch} {D : xD} {ty : xTy} {h : xH} {v0 : Nat} {v1 : Int32} {v2 : Int32} {r : Int32} {h9 : xH} (t_v0 : ty v0 = some (0, 12)) (hF : jf_X12_shared ty h v0 v1 v2 = some (r, h9)) : Met l yX12_shared (xws yX12_shared cX12_shared 3 (some .int)) jr_X12_shared (xPc D ty h [.ref v0, .int v1, .int v2]) (xQ D ty (some (.int r)) h9) 0 0 (xdom ty) := by
  refine x_met (by decide) ?_
  intro p e s m below meth c C0 hR
  generalize hargs : ([.ref v0, .int v1, .int v2] : List Value).toArray = args at C0 ⊢
  have hx := C0.1
  have hb := C0.2.1
  have hown := C0.2.2.2.2.2.1
  have hts := C0.2.2.2.2.2.2.1
  have hS : xS ty s.heap s.heap [] := xS.rf
  have hl := lv_entry ([.ref v0, .int v1, .int v2]) (n := 3) (Nat.le_of_ble_eq_true rfl)
  rw [← hargs, lg_entry_eq]
  rw [hargs]
  generalize (lg_sl ([.ref v0, .int v1, .int v2]) ++ List.replicate (3 - (lg_sl ([.ref v0, .int v1, .int v2])).length) Slot.unset).toArray = ls at hl ⊢
  have hl : lv_has ls 3 [(0, .ref v0), (1, .int v1), (2, .int v2)] := hl
  unfold jf_X12_shared at hF
  refine lv_aload_n hx hb dX12_shared_0 rfl (lv_at hl 0 rfl) ?_
  refine lv_iconst (v := 0) hx hb dX12_shared_1 (by decide) ?_
  obtain ⟨h1, e_h1, hF⟩ := xbd hF
  refine pf_X12_101 C0 hR hS t_v0 dX12_shared_2 (fun H locs hR hS => ?_)
  rw [Option.some.inj e_h1] at hR
  refine lv_aload_n hx hb dX12_shared_5 rfl (lv_at hl 0 rfl) ?_
  refine lv_iload_n hx hb dX12_shared_6 rfl (lv_at hl 1 rfl) ?_
  obtain ⟨a2, e_a2, hF⟩ := xbd hF
  refine cl_X12_282 C0 hR hS e_a2 t_v0 ⟨(Nat.le_of_ble_eq_true rfl), (Nat.le_of_ble_eq_true rfl)⟩ hl.1 (Nat.le_of_ble_eq_true rfl) ⟨(Nat.le_of_ble_eq_true rfl), (Nat.le_of_ble_eq_true rfl)⟩ dX12_shared_7 (fun H locs hR hS => ?_)
  refine lv_if_eq (tgt := 30) hx hb dX12_shared_10 (by decide) (fun c3 => ?_) (fun c3 => ?_)
  · have hF := xif hF c3
    refine lv_iconst (v := (-1)) hx hb dX12_shared_30 (by decide) ?_
    cases hF
    exact x_iret C0 hR hS dX12_shared_31
  · have hF := xel hF c3
    refine lv_aload_n hx hb dX12_shared_13 rfl (lv_at hl 0 rfl) ?_
    refine lv_iload_n hx hb dX12_shared_14 rfl (lv_at hl 2 rfl) ?_
    obtain ⟨a4, e_a4, hF⟩ := xbd hF
    refine cl_X12_282 C0 hR hS e_a4 t_v0 ⟨(Nat.le_of_ble_eq_true rfl), (Nat.le_of_ble_eq_true rfl)⟩ hl.1 (Nat.le_of_ble_eq_true rfl) ⟨(Nat.le_of_ble_eq_true rfl), (Nat.le_of_ble_eq_true rfl)⟩ dX12_shared_15 (fun H locs hR hS => ?_)
    refine lv_if_eq (tgt := 30) hx hb dX12_shared_18 (by decide) (fun c5 => ?_) (fun c5 => ?_)
    · have hF := xif hF c5
      refine lv_iconst (v := (-1)) hx hb dX12_shared_30 (by decide) ?_
      cases hF
      exact x_iret C0 hR hS dX12_shared_31
    · have hF := xel hF c5
      refine lv_aload_n hx hb dX12_shared_21 rfl (lv_at hl 0 rfl) ?_
      refine lv_iload_n hx hb dX12_shared_22 rfl (lv_at hl 1 rfl) ?_
      refine lv_iload_n hx hb dX12_shared_23 rfl (lv_at hl 2 rfl) ?_
      obtain ⟨a6, e_a6, hF⟩ := xbd hF
      refine cl_X12_294 C0 hR hS e_a6 t_v0 ⟨(Nat.le_of_ble_eq_true rfl), (Nat.le_of_ble_eq_true rfl)⟩ hl.1 (Nat.le_of_ble_eq_true rfl) ⟨(Nat.le_of_ble_eq_true rfl), (Nat.le_of_ble_eq_true rfl)⟩ dX12_shared_24 (fun H locs hR hS => ?_)
      refine lv_goto (tgt := 31) hx hb dX12_shared_27 (by decide) ?_
      cases hF
      exact x_iret C0 hR hS dX12_shared_31
theorem xm_X12_shared : xMw yX12_shared cX12_shared 3 (some .int) 2 := ⟨xin 1764 (by decide +kernel) rfl, xin 126 (by decide +kernel) rfl, by decide +kernel⟩
theorem xi_X12_shared : Cond.instanceMethod yX12_shared ∈ xT := xin 1762 (by decide +kernel) rfl
theorem xe_X12_shared : Cond.selects yX12_shared.cls yX12_shared yX12_shared ∈ xT := xin 1763 (by decide +kernel) rfl
theorem dX12_beside_0 : decode cX12_beside 0 = .ok (.aload_n 0, 1) := by decide +kernel
theorem dX12_beside_1 : decode cX12_beside 1 = .ok (.iconst 0, 1) := by decide +kernel
theorem dX12_beside_2 : decode cX12_beside 2 = .ok (.putfield 101, 3) := by decide +kernel
theorem dX12_beside_5 : decode cX12_beside 5 = .ok (.aload_n 0, 1) := by decide +kernel
theorem dX12_beside_6 : decode cX12_beside 6 = .ok (.iload_n 1, 1) := by decide +kernel
theorem dX12_beside_7 : decode cX12_beside 7 = .ok (.invokevirtual 282, 3) := by decide +kernel
theorem dX12_beside_10 : decode cX12_beside 10 = .ok (.ifCond .eq 20, 3) := by decide +kernel
theorem dX12_beside_13 : decode cX12_beside 13 = .ok (.aload_n 0, 1) := by decide +kernel
theorem dX12_beside_14 : decode cX12_beside 14 = .ok (.iload_n 2, 1) := by decide +kernel
theorem dX12_beside_15 : decode cX12_beside 15 = .ok (.invokevirtual 282, 3) := by decide +kernel
theorem dX12_beside_18 : decode cX12_beside 18 = .ok (.ifCond .eq 12, 3) := by decide +kernel
theorem dX12_beside_21 : decode cX12_beside 21 = .ok (.iload_n 3, 1) := by decide +kernel
theorem dX12_beside_22 : decode cX12_beside 22 = .ok (.iconst 0, 1) := by decide +kernel
theorem dX12_beside_23 : decode cX12_beside 23 = .ok (.iconst 1, 1) := by decide +kernel
theorem dX12_beside_24 : decode cX12_beside 24 = .ok (.invokestatic 146, 3) := by decide +kernel
theorem dX12_beside_27 : decode cX12_beside 27 = .ok (.ifCond .ne 5, 3) := by decide +kernel
theorem dX12_beside_30 : decode cX12_beside 30 = .ok (.iconst (-1), 1) := by decide +kernel
theorem dX12_beside_31 : decode cX12_beside 31 = .ok (.ireturn, 1) := by decide +kernel
theorem dX12_beside_32 : decode cX12_beside 32 = .ok (.iload_n 3, 1) := by decide +kernel
theorem dX12_beside_33 : decode cX12_beside 33 = .ok (.ifCond .ne 27, 3) := by decide +kernel
theorem dX12_beside_36 : decode cX12_beside 36 = .ok (.aload_n 0, 1) := by decide +kernel
theorem dX12_beside_37 : decode cX12_beside 37 = .ok (.iload_n 1, 1) := by decide +kernel
theorem dX12_beside_38 : decode cX12_beside 38 = .ok (.iload_n 2, 1) := by decide +kernel
theorem dX12_beside_39 : decode cX12_beside 39 = .ok (.invokevirtual 337, 3) := by decide +kernel
theorem dX12_beside_42 : decode cX12_beside 42 = .ok (.ifCond .eq 16, 3) := by decide +kernel
theorem dX12_beside_45 : decode cX12_beside 45 = .ok (.aload_n 0, 1) := by decide +kernel
theorem dX12_beside_46 : decode cX12_beside 46 = .ok (.iload_n 2, 1) := by decide +kernel
theorem dX12_beside_47 : decode cX12_beside 47 = .ok (.iload_n 1, 1) := by decide +kernel
theorem dX12_beside_48 : decode cX12_beside 48 = .ok (.invokevirtual 337, 3) := by decide +kernel
theorem dX12_beside_51 : decode cX12_beside 51 = .ok (.ifCond .eq 7, 3) := by decide +kernel
theorem dX12_beside_54 : decode cX12_beside 54 = .ok (.iconst 1, 1) := by decide +kernel
theorem dX12_beside_55 : decode cX12_beside 55 = .ok (.goto 4, 3) := by decide +kernel
theorem dX12_beside_58 : decode cX12_beside 58 = .ok (.iconst 0, 1) := by decide +kernel
theorem dX12_beside_59 : decode cX12_beside 59 = .ok (.ireturn, 1) := by decide +kernel
theorem dX12_beside_60 : decode cX12_beside 60 = .ok (.aload_n 0, 1) := by decide +kernel
theorem dX12_beside_61 : decode cX12_beside 61 = .ok (.invokevirtual 263, 3) := by decide +kernel
theorem dX12_beside_64 : decode cX12_beside 64 = .ok (.aload_n 0, 1) := by decide +kernel
theorem dX12_beside_65 : decode cX12_beside 65 = .ok (.iload_n 1, 1) := by decide +kernel
theorem dX12_beside_66 : decode cX12_beside 66 = .ok (.iconst 4, 1) := by decide +kernel
theorem dX12_beside_67 : decode cX12_beside 67 = .ok (.invokevirtual 270, 3) := by decide +kernel
theorem dX12_beside_70 : decode cX12_beside 70 = .ok (.istore 4, 2) := by decide +kernel
theorem dX12_beside_72 : decode cX12_beside 72 = .ok (.aload_n 0, 1) := by decide +kernel
theorem dX12_beside_73 : decode cX12_beside 73 = .ok (.iload 4, 2) := by decide +kernel
theorem dX12_beside_75 : decode cX12_beside 75 = .ok (.aload_n 0, 1) := by decide +kernel
theorem dX12_beside_76 : decode cX12_beside 76 = .ok (.iload_n 2, 1) := by decide +kernel
theorem dX12_beside_77 : decode cX12_beside 77 = .ok (.bipush 8, 2) := by decide +kernel
theorem dX12_beside_79 : decode cX12_beside 79 = .ok (.invokevirtual 270, 3) := by decide +kernel
theorem dX12_beside_82 : decode cX12_beside 82 = .ok (.invokevirtual 276, 3) := by decide +kernel
theorem dX12_beside_85 : decode cX12_beside 85 = .ok (.ifCond .eq 7, 3) := by decide +kernel
theorem dX12_beside_88 : decode cX12_beside 88 = .ok (.iconst 1, 1) := by decide +kernel
theorem dX12_beside_89 : decode cX12_beside 89 = .ok (.goto 4, 3) := by decide +kernel
theorem dX12_beside_92 : decode cX12_beside 92 = .ok (.iconst 0, 1) := by decide +kernel
theorem dX12_beside_93 : decode cX12_beside 93 = .ok (.ireturn, 1) := by decide +kernel
set_option maxHeartbeats 4000000 in
set_option maxRecDepth 100000 in
theorem jc_X12_beside {l : Launch} {D : xD} {ty : xTy} {h : xH} {v0 : Nat} {v1 : Int32} {v2 : Int32} {v3 : Int32} {r : Int32} {h9 : xH} (t_v0 : ty v0 = some (0, 12)) (hF : jf_X12_beside ty h v0 v1 v2 v3 = some (r, h9)) : Met l yX12_beside (xws yX12_beside cX12_beside 5 (some .int)) jr_X12_beside (xPc D ty h [.ref v0, .int v1, .int v2, .int v3]) (xQ D ty (some (.int r)) h9) 0 0 (xdom ty) := by
  refine x_met (by decide) ?_
  intro p e s m below meth c C0 hR
  generalize hargs : ([.ref v0, .int v1, .int v2, .int v3] : List Value).toArray = args at C0 ⊢
  have hx := C0.1
  have hb := C0.2.1
  have hown := C0.2.2.2.2.2.1
  have hts := C0.2.2.2.2.2.2.1
  have hS : xS ty s.heap s.heap [] := xS.rf
  have hl := lv_entry ([.ref v0, .int v1, .int v2, .int v3]) (n := 5) (Nat.le_of_ble_eq_true rfl)
  rw [← hargs, lg_entry_eq]
  rw [hargs]
  generalize (lg_sl ([.ref v0, .int v1, .int v2, .int v3]) ++ List.replicate (5 - (lg_sl ([.ref v0, .int v1, .int v2, .int v3])).length) Slot.unset).toArray = ls at hl ⊢
  have hl : lv_has ls 5 [(0, .ref v0), (1, .int v1), (2, .int v2), (3, .int v3)] := hl
  unfold jf_X12_beside at hF
  refine lv_aload_n hx hb dX12_beside_0 rfl (lv_at hl 0 rfl) ?_
  refine lv_iconst (v := 0) hx hb dX12_beside_1 (by decide) ?_
  obtain ⟨h1, e_h1, hF⟩ := xbd hF
  refine pf_X12_101 C0 hR hS t_v0 dX12_beside_2 (fun H locs hR hS => ?_)
  rw [Option.some.inj e_h1] at hR
  refine lv_aload_n hx hb dX12_beside_5 rfl (lv_at hl 0 rfl) ?_
  refine lv_iload_n hx hb dX12_beside_6 rfl (lv_at hl 1 rfl) ?_
  obtain ⟨a2, e_a2, hF⟩ := xbd hF
  refine cl_X12_282 C0 hR hS e_a2 t_v0 ⟨(Nat.le_of_ble_eq_true rfl), (Nat.le_of_ble_eq_true rfl)⟩ hl.1 (Nat.le_of_ble_eq_true rfl) ⟨(Nat.le_of_ble_eq_true rfl), (Nat.le_of_ble_eq_true rfl)⟩ dX12_beside_7 (fun H locs hR hS => ?_)
  refine lv_if_eq (tgt := 30) hx hb dX12_beside_10 (by decide) (fun c3 => ?_) (fun c3 => ?_)
  · have hF := xif hF c3
    refine lv_iconst (v := (-1)) hx hb dX12_beside_30 (by decide) ?_
    cases hF
    exact x_iret C0 hR hS dX12_beside_31
  · have hF := xel hF c3
    refine lv_aload_n hx hb dX12_beside_13 rfl (lv_at hl 0 rfl) ?_
    refine lv_iload_n hx hb dX12_beside_14 rfl (lv_at hl 2 rfl) ?_
    obtain ⟨a4, e_a4, hF⟩ := xbd hF
    refine cl_X12_282 C0 hR hS e_a4 t_v0 ⟨(Nat.le_of_ble_eq_true rfl), (Nat.le_of_ble_eq_true rfl)⟩ hl.1 (Nat.le_of_ble_eq_true rfl) ⟨(Nat.le_of_ble_eq_true rfl), (Nat.le_of_ble_eq_true rfl)⟩ dX12_beside_15 (fun H locs hR hS => ?_)
    refine lv_if_eq (tgt := 30) hx hb dX12_beside_18 (by decide) (fun c5 => ?_) (fun c5 => ?_)
    · have hF := xif hF c5
      refine lv_iconst (v := (-1)) hx hb dX12_beside_30 (by decide) ?_
      cases hF
      exact x_iret C0 hR hS dX12_beside_31
    · have hF := xel hF c5
      refine lv_iload_n hx hb dX12_beside_21 rfl (lv_at hl 3 rfl) ?_
      refine lv_iconst (v := 0) hx hb dX12_beside_22 (by decide) ?_
      refine lv_iconst (v := 1) hx hb dX12_beside_23 (by decide) ?_
      obtain ⟨a6, e_a6, hF⟩ := xbd hF
      refine cl_X12_146 C0 hR hS e_a6  ⟨(Nat.le_of_ble_eq_true rfl), (Nat.le_of_ble_eq_true rfl)⟩ hl.1 (Nat.le_of_ble_eq_true rfl) ⟨(Nat.le_of_ble_eq_true rfl), (Nat.le_of_ble_eq_true rfl)⟩ dX12_beside_24 (fun H locs hR hS => ?_)
      refine lv_if_ne (tgt := 32) hx hb dX12_beside_27 (by decide) (fun c7 => ?_) (fun c7 => ?_)
      · have hF := xel hF c7
        refine lv_iload_n hx hb dX12_beside_32 rfl (lv_at hl 3 rfl) ?_
        refine lv_if_ne (tgt := 60) hx hb dX12_beside_33 (by decide) (fun c8 => ?_) (fun c8 => ?_)
        · have hF := xel hF c8
          refine lv_aload_n hx hb dX12_beside_60 rfl (lv_at hl 0 rfl) ?_
          obtain ⟨h9, e_h9, hF⟩ := xbd hF
          refine cl_X12_263 C0 hR hS e_h9 t_v0 ⟨(Nat.le_of_ble_eq_true rfl), (Nat.le_of_ble_eq_true rfl)⟩ hl.1 (Nat.le_of_ble_eq_true rfl) ⟨(Nat.le_of_ble_eq_true rfl), (Nat.le_of_ble_eq_true rfl)⟩ dX12_beside_61 (fun H locs hR hS => ?_)
          refine lv_aload_n hx hb dX12_beside_64 rfl (lv_at hl 0 rfl) ?_
          refine lv_iload_n hx hb dX12_beside_65 rfl (lv_at hl 1 rfl) ?_
          refine lv_iconst (v := 4) hx hb dX12_beside_66 (by decide) ?_
          obtain ⟨a11, h10, e_h10, hF⟩ := xbd2 hF
          refine cl_X12_270 C0 hR hS e_h10 t_v0 ⟨(Nat.le_of_ble_eq_true rfl), (Nat.le_of_ble_eq_true rfl)⟩ hl.1 (Nat.le_of_ble_eq_true rfl) ⟨(Nat.le_of_ble_eq_true rfl), (Nat.le_of_ble_eq_true rfl)⟩ dX12_beside_67 (fun H locs hR hS => ?_)
          refine lv_istore (lv' := [(4, .int a11), (0, .ref v0), (1, .int v1), (2, .int v2), (3, .int v3)]) hx hb dX12_beside_70 hl (by decide) rfl (fun ls hl => ?_)
          refine lv_aload_n hx hb dX12_beside_72 rfl (lv_at hl 1 rfl) ?_
          refine lv_iload hx hb dX12_beside_73 (lv_at hl 0 rfl) ?_
          refine lv_aload_n hx hb dX12_beside_75 rfl (lv_at hl 1 rfl) ?_
          refine lv_iload_n hx hb dX12_beside_76 rfl (lv_at hl 3 rfl) ?_
          refine lv_bipush (v := 8) hx hb dX12_beside_77 (by decide) ?_
          obtain ⟨a13, h12, e_h12, hF⟩ := xbd2 hF
          refine cl_X12_270 C0 hR hS e_h12 t_v0 ⟨(Nat.le_of_ble_eq_true rfl), (Nat.le_of_ble_eq_true rfl)⟩ hl.1 (Nat.le_of_ble_eq_true rfl) ⟨(Nat.le_of_ble_eq_true rfl), (Nat.le_of_ble_eq_true rfl)⟩ dX12_beside_79 (fun H locs hR hS => ?_)
          obtain ⟨a15, h14, e_h14, hF⟩ := xbd2 hF
          refine cl_X12_276 C0 hR hS e_h14 t_v0 ⟨(Nat.le_of_ble_eq_true rfl), (Nat.le_of_ble_eq_true rfl)⟩ hl.1 (Nat.le_of_ble_eq_true rfl) ⟨(Nat.le_of_ble_eq_true rfl), (Nat.le_of_ble_eq_true rfl)⟩ dX12_beside_82 (fun H locs hR hS => ?_)
          refine lv_if_eq (tgt := 92) hx hb dX12_beside_85 (by decide) (fun c16 => ?_) (fun c16 => ?_)
          · have hF := xif hF c16
            refine lv_iconst (v := 0) hx hb dX12_beside_92 (by decide) ?_
            cases hF
            exact x_iret C0 hR hS dX12_beside_93
          · have hF := xel hF c16
            refine lv_iconst (v := 1) hx hb dX12_beside_88 (by decide) ?_
            refine lv_goto (tgt := 93) hx hb dX12_beside_89 (by decide) ?_
            cases hF
            exact x_iret C0 hR hS dX12_beside_93
        · have hF := xif hF c8
          refine lv_aload_n hx hb dX12_beside_36 rfl (lv_at hl 0 rfl) ?_
          refine lv_iload_n hx hb dX12_beside_37 rfl (lv_at hl 1 rfl) ?_
          refine lv_iload_n hx hb dX12_beside_38 rfl (lv_at hl 2 rfl) ?_
          obtain ⟨a18, h17, e_h17, hF⟩ := xbd2 hF
          refine cl_X12_337 C0 hR hS e_h17 t_v0 ⟨(Nat.le_of_ble_eq_true rfl), (Nat.le_of_ble_eq_true rfl)⟩ hl.1 (Nat.le_of_ble_eq_true rfl) ⟨(Nat.le_of_ble_eq_true rfl), (Nat.le_of_ble_eq_true rfl)⟩ dX12_beside_39 (fun H locs hR hS => ?_)
          refine lv_if_eq (tgt := 58) hx hb dX12_beside_42 (by decide) (fun c19 => ?_) (fun c19 => ?_)
          · have hF := xif hF c19
            refine lv_iconst (v := 0) hx hb dX12_beside_58 (by decide) ?_
            cases hF
            exact x_iret C0 hR hS dX12_beside_59
          · have hF := xel hF c19
            refine lv_aload_n hx hb dX12_beside_45 rfl (lv_at hl 0 rfl) ?_
            refine lv_iload_n hx hb dX12_beside_46 rfl (lv_at hl 2 rfl) ?_
            refine lv_iload_n hx hb dX12_beside_47 rfl (lv_at hl 1 rfl) ?_
            obtain ⟨a21, h20, e_h20, hF⟩ := xbd2 hF
            refine cl_X12_337 C0 hR hS e_h20 t_v0 ⟨(Nat.le_of_ble_eq_true rfl), (Nat.le_of_ble_eq_true rfl)⟩ hl.1 (Nat.le_of_ble_eq_true rfl) ⟨(Nat.le_of_ble_eq_true rfl), (Nat.le_of_ble_eq_true rfl)⟩ dX12_beside_48 (fun H locs hR hS => ?_)
            refine lv_if_eq (tgt := 58) hx hb dX12_beside_51 (by decide) (fun c22 => ?_) (fun c22 => ?_)
            · have hF := xif hF c22
              refine lv_iconst (v := 0) hx hb dX12_beside_58 (by decide) ?_
              cases hF
              exact x_iret C0 hR hS dX12_beside_59
            · have hF := xel hF c22
              refine lv_iconst (v := 1) hx hb dX12_beside_54 (by decide) ?_
              refine lv_goto (tgt := 59) hx hb dX12_beside_55 (by decide) ?_
              cases hF
              exact x_iret C0 hR hS dX12_beside_59
      · have hF := xif hF c7
        refine lv_iconst (v := (-1)) hx hb dX12_beside_30 (by decide) ?_
        cases hF
        exact x_iret C0 hR hS dX12_beside_31
theorem xm_X12_beside : xMw yX12_beside cX12_beside 5 (some .int) 3 := ⟨xin 1768 (by decide +kernel) rfl, xin 126 (by decide +kernel) rfl, by decide +kernel⟩
theorem xi_X12_beside : Cond.instanceMethod yX12_beside ∈ xT := xin 1766 (by decide +kernel) rfl
theorem xe_X12_beside : Cond.selects yX12_beside.cls yX12_beside yX12_beside ∈ xT := xin 1767 (by decide +kernel) rfl
theorem dX12_fails_0 : decode cX12_fails 0 = .ok (.aload_n 0, 1) := by decide +kernel
theorem dX12_fails_1 : decode cX12_fails 1 = .ok (.iload_n 1, 1) := by decide +kernel
theorem dX12_fails_2 : decode cX12_fails 2 = .ok (.putfield 101, 3) := by decide +kernel
theorem dX12_fails_5 : decode cX12_fails 5 = .ok (.iconst 0, 1) := by decide +kernel
theorem dX12_fails_6 : decode cX12_fails 6 = .ok (.ireturn, 1) := by decide +kernel
set_option maxHeartbeats 4000000 in
set_option maxRecDepth 100000 in
theorem jc_X12_fails {l : Launch} {D : xD} {ty : xTy} {h : xH} {v0 : Nat} {v1 : Int32} {r : Int32} {h9 : xH} (t_v0 : ty v0 = some (0, 12)) (hF : jf_X12_fails ty h v0 v1 = some (r, h9)) : Met l yX12_fails (xws yX12_fails cX12_fails 2 (some .int)) jr_X12_fails (xPc D ty h [.ref v0, .int v1]) (xQ D ty (some (.int r)) h9) 0 0 (xdom ty) := by
  refine x_met (by decide) ?_
  intro p e s m below meth c C0 hR
  generalize hargs : ([.ref v0, .int v1] : List Value).toArray = args at C0 ⊢
  have hx := C0.1
  have hb := C0.2.1
  have hown := C0.2.2.2.2.2.1
  have hts := C0.2.2.2.2.2.2.1
  have hS : xS ty s.heap s.heap [] := xS.rf
  have hl := lv_entry ([.ref v0, .int v1]) (n := 2) (Nat.le_of_ble_eq_true rfl)
  rw [← hargs, lg_entry_eq]
  rw [hargs]
  generalize (lg_sl ([.ref v0, .int v1]) ++ List.replicate (2 - (lg_sl ([.ref v0, .int v1])).length) Slot.unset).toArray = ls at hl ⊢
  have hl : lv_has ls 2 [(0, .ref v0), (1, .int v1)] := hl
  unfold jf_X12_fails at hF
  refine lv_aload_n hx hb dX12_fails_0 rfl (lv_at hl 0 rfl) ?_
  refine lv_iload_n hx hb dX12_fails_1 rfl (lv_at hl 1 rfl) ?_
  obtain ⟨h1, e_h1, hF⟩ := xbd hF
  refine pf_X12_101 C0 hR hS t_v0 dX12_fails_2 (fun H locs hR hS => ?_)
  rw [Option.some.inj e_h1] at hR
  refine lv_iconst (v := 0) hx hb dX12_fails_5 (by decide) ?_
  cases hF
  exact x_iret C0 hR hS dX12_fails_6
theorem xm_X12_fails : xMw yX12_fails cX12_fails 2 (some .int) 1 := ⟨xin 1776 (by decide +kernel) rfl, xin 126 (by decide +kernel) rfl, by decide +kernel⟩
theorem xi_X12_fails : Cond.instanceMethod yX12_fails ∈ xT := xin 1775 (by decide +kernel) rfl
theorem xe_X12_fails : Cond.selects yX12_fails.cls yX12_fails yX12_fails ∈ xT := xin 98 (by decide +kernel) rfl
theorem dX12_varBits_0 : decode cX12_varBits 0 = .ok (.iconst 0, 1) := by decide +kernel
theorem dX12_varBits_1 : decode cX12_varBits 1 = .ok (.istore_n 2, 1) := by decide +kernel
theorem dX12_varBits_2 : decode cX12_varBits 2 = .ok (.iconst 0, 1) := by decide +kernel
theorem dX12_varBits_3 : decode cX12_varBits 3 = .ok (.istore_n 3, 1) := by decide +kernel
theorem dX12_varBits_4 : decode cX12_varBits 4 = .ok (.iload_n 3, 1) := by decide +kernel
theorem dX12_varBits_5 : decode cX12_varBits 5 = .ok (.aload_n 0, 1) := by decide +kernel
theorem dX12_varBits_6 : decode cX12_varBits 6 = .ok (.getfield 32, 3) := by decide +kernel
theorem dX12_varBits_9 : decode cX12_varBits 9 = .ok (.iload_n 1, 1) := by decide +kernel
theorem dX12_varBits_10 : decode cX12_varBits 10 = .ok (.iaload, 1) := by decide +kernel
theorem dX12_varBits_11 : decode cX12_varBits 11 = .ok (.if_icmp .ge 48, 3) := by decide +kernel
theorem dX12_varBits_14 : decode cX12_varBits 14 = .ok (.iload_n 2, 1) := by decide +kernel
theorem dX12_varBits_15 : decode cX12_varBits 15 = .ok (.aload_n 0, 1) := by decide +kernel
theorem dX12_varBits_16 : decode cX12_varBits 16 = .ok (.getfield 35, 3) := by decide +kernel
theorem dX12_varBits_19 : decode cX12_varBits 19 = .ok (.bipush 12, 2) := by decide +kernel
theorem dX12_varBits_21 : decode cX12_varBits 21 = .ok (.iload_n 1, 1) := by decide +kernel
theorem dX12_varBits_22 : decode cX12_varBits 22 = .ok (.imul, 1) := by decide +kernel
theorem dX12_varBits_23 : decode cX12_varBits 23 = .ok (.iload_n 3, 1) := by decide +kernel
theorem dX12_varBits_24 : decode cX12_varBits 24 = .ok (.iadd, 1) := by decide +kernel
theorem dX12_varBits_25 : decode cX12_varBits 25 = .ok (.iaload, 1) := by decide +kernel
theorem dX12_varBits_26 : decode cX12_varBits 26 = .ok (.bipush 100, 2) := by decide +kernel
theorem dX12_varBits_28 : decode cX12_varBits 28 = .ok (.if_icmp .lt 22, 3) := by decide +kernel
theorem dX12_varBits_31 : decode cX12_varBits 31 = .ok (.iconst 1, 1) := by decide +kernel
theorem dX12_varBits_32 : decode cX12_varBits 32 = .ok (.aload_n 0, 1) := by decide +kernel
theorem dX12_varBits_33 : decode cX12_varBits 33 = .ok (.getfield 35, 3) := by decide +kernel
theorem dX12_varBits_36 : decode cX12_varBits 36 = .ok (.bipush 12, 2) := by decide +kernel
theorem dX12_varBits_38 : decode cX12_varBits 38 = .ok (.iload_n 1, 1) := by decide +kernel
theorem dX12_varBits_39 : decode cX12_varBits 39 = .ok (.imul, 1) := by decide +kernel
theorem dX12_varBits_40 : decode cX12_varBits 40 = .ok (.iload_n 3, 1) := by decide +kernel
theorem dX12_varBits_41 : decode cX12_varBits 41 = .ok (.iadd, 1) := by decide +kernel
theorem dX12_varBits_42 : decode cX12_varBits 42 = .ok (.iaload, 1) := by decide +kernel
theorem dX12_varBits_43 : decode cX12_varBits 43 = .ok (.bipush 100, 2) := by decide +kernel
theorem dX12_varBits_45 : decode cX12_varBits 45 = .ok (.isub, 1) := by decide +kernel
theorem dX12_varBits_46 : decode cX12_varBits 46 = .ok (.ishl, 1) := by decide +kernel
theorem dX12_varBits_47 : decode cX12_varBits 47 = .ok (.goto 4, 3) := by decide +kernel
theorem dX12_varBits_50 : decode cX12_varBits 50 = .ok (.iconst 0, 1) := by decide +kernel
theorem dX12_varBits_51 : decode cX12_varBits 51 = .ok (.ior, 1) := by decide +kernel
theorem dX12_varBits_52 : decode cX12_varBits 52 = .ok (.istore_n 2, 1) := by decide +kernel
theorem dX12_varBits_53 : decode cX12_varBits 53 = .ok (.iinc 3 1, 3) := by decide +kernel
theorem dX12_varBits_56 : decode cX12_varBits 56 = .ok (.goto (-52), 3) := by decide +kernel
theorem dX12_varBits_59 : decode cX12_varBits 59 = .ok (.iload_n 2, 1) := by decide +kernel
theorem dX12_varBits_60 : decode cX12_varBits 60 = .ok (.ireturn, 1) := by decide +kernel
set_option maxHeartbeats 4000000 in
set_option maxRecDepth 100000 in
theorem jw_X12_varBits_4 {p : Program} {l : Launch} {e : Env} {s : State} {m : MethodId} {args : Array Value} {below : List Frame} {meth : Method} {c : Code} {D : xD} {ty : xTy} {h : xH} (C0 : xC D RX12 cX12_varBits 4 (some .int) p s m args meth c) {r : Int32} : ∀ n : Nat, ∀ (v0 : Nat) (v1 : Int32) (v2 : Int32) (v3 : Int32), ty v0 = some (0, 12) → jf_X12_varBits_4 ty h n v0 v1 v2 v3 = some r → ∀ (H : Heap) (locs : List Loc), xRep D ty h H → xS ty s.heap H locs → ∀ ls : Array Slot, lv_has ls 4 [(0, .ref v0), (1, .int v1), (2, .int v2), (3, .int v3)] → W p l e jr_X12_varBits s m args below meth c H locs 0 0 (MQ below (xQ D ty (some (.int r)) h) args s 0 0 (xdom ty)) (F0 m 4 ls []) := by
  have hx := C0.1
  have hb := C0.2.1
  have hown := C0.2.2.2.2.2.1
  have hts := C0.2.2.2.2.2.2.1
  intro n
  induction n with
  | zero =>
    intro v0 v1 v2 v3 t_v0 hF H locs hR hS ls hl
    cases hF
  | succ n ih =>
    intro v0 v1 v2 v3 t_v0 hF H locs hR hS ls hl
    rw [jf_X12_varBits_4_s] at hF
    refine lv_iload_n hx hb dX12_varBits_4 rfl (lv_at hl 3 rfl) ?_
    refine lv_aload_n hx hb dX12_varBits_5 rfl (lv_at hl 0 rfl) ?_
    obtain ⟨a1, e_a1, hF⟩ := xbd hF
    refine gf_X12_32 C0 hR t_v0 e_a1 dX12_varBits_6 ?_
    refine lv_iload_n hx hb dX12_varBits_9 rfl (lv_at hl 1 rfl) ?_
    obtain ⟨a2, e_a2, hF⟩ := xbd hF
    refine x_iald C0 hR e_a2 dX12_varBits_10 ?_
    refine lv_icmp_ge (tgt := 59) hx hb dX12_varBits_11 (by decide) (fun c3 => ?_) (fun c3 => ?_)
    · have hF := xif hF c3
      refine lv_iload_n hx hb dX12_varBits_59 rfl (lv_at hl 2 rfl) ?_
      cases hF
      exact x_iret C0 hR hS dX12_varBits_60
    · have hF := xel hF c3
      refine lv_iload_n hx hb dX12_varBits_14 rfl (lv_at hl 2 rfl) ?_
      refine lv_aload_n hx hb dX12_varBits_15 rfl (lv_at hl 0 rfl) ?_
      obtain ⟨a4, e_a4, hF⟩ := xbd hF
      refine gf_X12_35 C0 hR t_v0 e_a4 dX12_varBits_16 ?_
      refine lv_bipush (v := 12) hx hb dX12_varBits_19 (by decide) ?_
      refine lv_iload_n hx hb dX12_varBits_21 rfl (lv_at hl 1 rfl) ?_
      refine lv_imul hx hb dX12_varBits_22 ?_
      refine lv_iload_n hx hb dX12_varBits_23 rfl (lv_at hl 3 rfl) ?_
      refine lv_iadd hx hb dX12_varBits_24 ?_
      obtain ⟨a5, e_a5, hF⟩ := xbd hF
      refine x_iald C0 hR e_a5 dX12_varBits_25 ?_
      refine lv_bipush (v := 100) hx hb dX12_varBits_26 (by decide) ?_
      refine lv_icmp_lt (tgt := 50) hx hb dX12_varBits_28 (by decide) (fun c6 => ?_) (fun c6 => ?_)
      · have hF := xif hF c6
        refine lv_iconst (v := 0) hx hb dX12_varBits_50 (by decide) ?_
        refine lv_ior hx hb dX12_varBits_51 ?_
        refine lv_istore_n (lv' := [(2, .int (v2 ||| 0)), (0, .ref v0), (1, .int v1), (3, .int v3)]) hx hb dX12_varBits_52 rfl hl (by decide) rfl (fun ls hl => ?_)
        refine lv_iinc (v := v3 + 1) (lv' := [(3, .int (v3 + 1)), (2, .int (v2 ||| 0)), (0, .ref v0), (1, .int v1)]) hx hb dX12_varBits_53 hl (k := 3) rfl rfl (by decide) rfl (fun ls hl => ?_)
        refine lv_goto (tgt := 4) hx hb dX12_varBits_56 (by decide) ?_
        exact ih _ _ _ _ t_v0 hF _ _ hR hS _ (lv_sub hl [2, 3, 1, 0] rfl)
      · have hF := xel hF c6
        refine lv_iconst (v := 1) hx hb dX12_varBits_31 (by decide) ?_
        refine lv_aload_n hx hb dX12_varBits_32 rfl (lv_at hl 0 rfl) ?_
        obtain ⟨a7, e_a7, hF⟩ := xbd hF
        refine gf_X12_35 C0 hR t_v0 e_a7 dX12_varBits_33 ?_
        refine lv_bipush (v := 12) hx hb dX12_varBits_36 (by decide) ?_
        refine lv_iload_n hx hb dX12_varBits_38 rfl (lv_at hl 1 rfl) ?_
        refine lv_imul hx hb dX12_varBits_39 ?_
        refine lv_iload_n hx hb dX12_varBits_40 rfl (lv_at hl 3 rfl) ?_
        refine lv_iadd hx hb dX12_varBits_41 ?_
        obtain ⟨a8, e_a8, hF⟩ := xbd hF
        refine x_iald C0 hR e_a8 dX12_varBits_42 ?_
        refine lv_bipush (v := 100) hx hb dX12_varBits_43 (by decide) ?_
        refine lv_isub hx hb dX12_varBits_45 ?_
        refine lv_ishl hx hb dX12_varBits_46 ?_
        refine lv_goto (tgt := 51) hx hb dX12_varBits_47 (by decide) ?_
        refine lv_ior hx hb dX12_varBits_51 ?_
        refine lv_istore_n (lv' := [(2, .int (v2 ||| (1 <<< ((a8 - 100) &&& 31)))), (0, .ref v0), (1, .int v1), (3, .int v3)]) hx hb dX12_varBits_52 rfl hl (by decide) rfl (fun ls hl => ?_)
        refine lv_iinc (v := v3 + 1) (lv' := [(3, .int (v3 + 1)), (2, .int (v2 ||| (1 <<< ((a8 - 100) &&& 31)))), (0, .ref v0), (1, .int v1)]) hx hb dX12_varBits_53 hl (k := 3) rfl rfl (by decide) rfl (fun ls hl => ?_)
        refine lv_goto (tgt := 4) hx hb dX12_varBits_56 (by decide) ?_
        exact ih _ _ _ _ t_v0 hF _ _ hR hS _ (lv_sub hl [2, 3, 1, 0] rfl)
set_option maxHeartbeats 4000000 in
set_option maxRecDepth 100000 in
theorem jc_X12_varBits {l : Launch} {D : xD} {ty : xTy} {h : xH} {v0 : Nat} {v1 : Int32} {r : Int32} (t_v0 : ty v0 = some (0, 12)) (hF : jf_X12_varBits ty h v0 v1 = some r) : Met l yX12_varBits (xws yX12_varBits cX12_varBits 4 (some .int)) jr_X12_varBits (xPc D ty h [.ref v0, .int v1]) (xQ D ty (some (.int r)) h) 0 0 (xdom ty) := by
  refine x_met (by decide) ?_
  intro p e s m below meth c C0 hR
  generalize hargs : ([.ref v0, .int v1] : List Value).toArray = args at C0 ⊢
  have hx := C0.1
  have hb := C0.2.1
  have hown := C0.2.2.2.2.2.1
  have hts := C0.2.2.2.2.2.2.1
  have hS : xS ty s.heap s.heap [] := xS.rf
  have hl := lv_entry ([.ref v0, .int v1]) (n := 4) (Nat.le_of_ble_eq_true rfl)
  rw [← hargs, lg_entry_eq]
  rw [hargs]
  generalize (lg_sl ([.ref v0, .int v1]) ++ List.replicate (4 - (lg_sl ([.ref v0, .int v1])).length) Slot.unset).toArray = ls at hl ⊢
  have hl : lv_has ls 4 [(0, .ref v0), (1, .int v1)] := hl
  unfold jf_X12_varBits at hF
  refine lv_iconst (v := 0) hx hb dX12_varBits_0 (by decide) ?_
  refine lv_istore_n (lv' := [(2, .int 0), (0, .ref v0), (1, .int v1)]) hx hb dX12_varBits_1 rfl hl (by decide) rfl (fun ls hl => ?_)
  refine lv_iconst (v := 0) hx hb dX12_varBits_2 (by decide) ?_
  refine lv_istore_n (lv' := [(3, .int 0), (2, .int 0), (0, .ref v0), (1, .int v1)]) hx hb dX12_varBits_3 rfl hl (by decide) rfl (fun ls hl => ?_)
  obtain ⟨_, hF⟩ := xlim_sp hF
  exact jw_X12_varBits_4 C0 _ _ _ _ _ t_v0 hF _ _ hR hS _ (lv_sub hl [2, 3, 1, 0] rfl)
theorem xm_X12_varBits : xMw yX12_varBits cX12_varBits 4 (some .int) 1 := ⟨xin 1784 (by decide +kernel) rfl, xin 126 (by decide +kernel) rfl, by decide +kernel⟩
theorem xi_X12_varBits : Cond.instanceMethod yX12_varBits ∈ xT := xin 1783 (by decide +kernel) rfl
theorem xe_X12_varBits : Cond.selects yX12_varBits.cls yX12_varBits yX12_varBits ∈ xT := xin 100 (by decide +kernel) rfl
theorem dX12_varsMany_0 : decode cX12_varsMany 0 = .ok (.iconst 0, 1) := by decide +kernel
theorem dX12_varsMany_1 : decode cX12_varsMany 1 = .ok (.istore_n 2, 1) := by decide +kernel
theorem dX12_varsMany_2 : decode cX12_varsMany 2 = .ok (.iconst 0, 1) := by decide +kernel
theorem dX12_varsMany_3 : decode cX12_varsMany 3 = .ok (.istore_n 3, 1) := by decide +kernel
theorem dX12_varsMany_4 : decode cX12_varsMany 4 = .ok (.iload_n 3, 1) := by decide +kernel
theorem dX12_varsMany_5 : decode cX12_varsMany 5 = .ok (.iconst 4, 1) := by decide +kernel
theorem dX12_varsMany_6 : decode cX12_varsMany 6 = .ok (.if_icmp .ge 21, 3) := by decide +kernel
theorem dX12_varsMany_9 : decode cX12_varsMany 9 = .ok (.iload_n 2, 1) := by decide +kernel
theorem dX12_varsMany_10 : decode cX12_varsMany 10 = .ok (.aload_n 0, 1) := by decide +kernel
theorem dX12_varsMany_11 : decode cX12_varsMany 11 = .ok (.iload_n 1, 1) := by decide +kernel
theorem dX12_varsMany_12 : decode cX12_varsMany 12 = .ok (.invokevirtual 346, 3) := by decide +kernel
theorem dX12_varsMany_15 : decode cX12_varsMany 15 = .ok (.iload_n 3, 1) := by decide +kernel
theorem dX12_varsMany_16 : decode cX12_varsMany 16 = .ok (.ishr, 1) := by decide +kernel
theorem dX12_varsMany_17 : decode cX12_varsMany 17 = .ok (.iconst 1, 1) := by decide +kernel
theorem dX12_varsMany_18 : decode cX12_varsMany 18 = .ok (.iand, 1) := by decide +kernel
theorem dX12_varsMany_19 : decode cX12_varsMany 19 = .ok (.iadd, 1) := by decide +kernel
theorem dX12_varsMany_20 : decode cX12_varsMany 20 = .ok (.istore_n 2, 1) := by decide +kernel
theorem dX12_varsMany_21 : decode cX12_varsMany 21 = .ok (.iinc 3 1, 3) := by decide +kernel
theorem dX12_varsMany_24 : decode cX12_varsMany 24 = .ok (.goto (-20), 3) := by decide +kernel
theorem dX12_varsMany_27 : decode cX12_varsMany 27 = .ok (.iload_n 2, 1) := by decide +kernel
theorem dX12_varsMany_28 : decode cX12_varsMany 28 = .ok (.ireturn, 1) := by decide +kernel
theorem wl_X12_346 : Cond.methodLink RX12 346 yX12_varBits ∈ xT := xin 1781 (by decide +kernel) rfl
section XN_X12_varsMany
variable {p : Program} {l : Launch} {e : Env} {R : Room} {s : State} {m : MethodId} {args : Array Value} {below : List Frame} {meth : Method} {c : Code} {H H0 : Heap} {locs : List Loc} {cells slots : Nat} {Q : State → Prop} {cc : ByteArray} {nL pc : Nat} {rt : Option FieldType} {ls : Array Slot} {rest : List Value} {D : xD} {ty : xTy} {h : xH}
theorem cl_X12_346 {v0 : Nat} {v1 : Int32} {r : Int32} (C0 : xC D RX12 cc nL rt p s m args meth c) (hR : xRep D ty h H) (hS : xS ty H0 H locs) (hF : jf_X12_varBits ty h v0 v1 = some r) (t_v0 : ty v0 = some (0, 12)) (hrm : jr_X12_varBits.frames + 1 ≤ R.frames ∧ 8 + (4 + 11) + jr_X12_varBits.locals ≤ R.locals) (hsz : ls.size = nL) (hW : (rest.map fun v => v.category).sum ≤ 8) (hf : cells ≤ R.cells ∧ slots ≤ R.slots) (hdg : decode cc pc = .ok (.invokevirtual 346, 3)) (kk : ∀ (H1 : Heap) (locs1 : List Loc), xRep D ty h H1 → xS ty H0 H1 locs1 → W p l e R s m args below meth c H1 locs1 cells slots Q (F0 m (pc + 3) ls (.int r :: rest))) : W p l e R s m args below meth c H locs cells slots Q (F0 m pc ls (.int v1 :: .ref v0 :: rest)) := x_callV C0 (jc_X12_varBits t_v0 hF) xm_X12_varBits xi_X12_varBits xe_X12_varBits wl_X12_346 ⟨rfl, rfl, hrm⟩ (ci := 12) rfl t_v0 hR hS (As := [.int v1]) rfl hsz rfl hW hdg hf kk
end XN_X12_varsMany
set_option maxHeartbeats 4000000 in
set_option maxRecDepth 100000 in
theorem jw_X12_varsMany_4 {p : Program} {l : Launch} {e : Env} {s : State} {m : MethodId} {args : Array Value} {below : List Frame} {meth : Method} {c : Code} {D : xD} {ty : xTy} {h : xH} (C0 : xC D RX12 cX12_varsMany 4 (some .int) p s m args meth c) {r : Int32} : ∀ n : Nat, ∀ (v0 : Nat) (v1 : Int32) (v2 : Int32) (v3 : Int32), ty v0 = some (0, 12) → jf_X12_varsMany_4 ty h n v0 v1 v2 v3 = some r → ∀ (H : Heap) (locs : List Loc), xRep D ty h H → xS ty s.heap H locs → ∀ ls : Array Slot, lv_has ls 4 [(0, .ref v0), (1, .int v1), (2, .int v2), (3, .int v3)] → W p l e jr_X12_varsMany s m args below meth c H locs 0 0 (MQ below (xQ D ty (some (.int r)) h) args s 0 0 (xdom ty)) (F0 m 4 ls []) := by
  have hx := C0.1
  have hb := C0.2.1
  have hown := C0.2.2.2.2.2.1
  have hts := C0.2.2.2.2.2.2.1
  intro n
  induction n with
  | zero =>
    intro v0 v1 v2 v3 t_v0 hF H locs hR hS ls hl
    cases hF
  | succ n ih =>
    intro v0 v1 v2 v3 t_v0 hF H locs hR hS ls hl
    rw [jf_X12_varsMany_4_s] at hF
    refine lv_iload_n hx hb dX12_varsMany_4 rfl (lv_at hl 3 rfl) ?_
    refine lv_iconst (v := 4) hx hb dX12_varsMany_5 (by decide) ?_
    refine lv_icmp_ge (tgt := 27) hx hb dX12_varsMany_6 (by decide) (fun c1 => ?_) (fun c1 => ?_)
    · have hF := xif hF c1
      refine lv_iload_n hx hb dX12_varsMany_27 rfl (lv_at hl 2 rfl) ?_
      cases hF
      exact x_iret C0 hR hS dX12_varsMany_28
    · have hF := xel hF c1
      refine lv_iload_n hx hb dX12_varsMany_9 rfl (lv_at hl 2 rfl) ?_
      refine lv_aload_n hx hb dX12_varsMany_10 rfl (lv_at hl 0 rfl) ?_
      refine lv_iload_n hx hb dX12_varsMany_11 rfl (lv_at hl 1 rfl) ?_
      obtain ⟨a2, e_a2, hF⟩ := xbd hF
      refine cl_X12_346 C0 hR hS e_a2 t_v0 ⟨(Nat.le_of_ble_eq_true rfl), (Nat.le_of_ble_eq_true rfl)⟩ hl.1 (Nat.le_of_ble_eq_true rfl) ⟨(Nat.le_of_ble_eq_true rfl), (Nat.le_of_ble_eq_true rfl)⟩ dX12_varsMany_12 (fun H locs hR hS => ?_)
      refine lv_iload_n hx hb dX12_varsMany_15 rfl (lv_at hl 3 rfl) ?_
      refine lv_ishr hx hb dX12_varsMany_16 ?_
      refine lv_iconst (v := 1) hx hb dX12_varsMany_17 (by decide) ?_
      refine lv_iand hx hb dX12_varsMany_18 ?_
      refine lv_iadd hx hb dX12_varsMany_19 ?_
      refine lv_istore_n (lv' := [(2, .int (v2 + ((a2 >>> (v3 &&& 31)) &&& 1))), (0, .ref v0), (1, .int v1), (3, .int v3)]) hx hb dX12_varsMany_20 rfl hl (by decide) rfl (fun ls hl => ?_)
      refine lv_iinc (v := v3 + 1) (lv' := [(3, .int (v3 + 1)), (2, .int (v2 + ((a2 >>> (v3 &&& 31)) &&& 1))), (0, .ref v0), (1, .int v1)]) hx hb dX12_varsMany_21 hl (k := 3) rfl rfl (by decide) rfl (fun ls hl => ?_)
      refine lv_goto (tgt := 4) hx hb dX12_varsMany_24 (by decide) ?_
      exact ih _ _ _ _ t_v0 hF _ _ hR hS _ (lv_sub hl [2, 3, 1, 0] rfl)
set_option maxHeartbeats 4000000 in
set_option maxRecDepth 100000 in
theorem jc_X12_varsMany {l : Launch} {D : xD} {ty : xTy} {h : xH} {v0 : Nat} {v1 : Int32} {r : Int32} (t_v0 : ty v0 = some (0, 12)) (hF : jf_X12_varsMany ty h v0 v1 = some r) : Met l yX12_varsMany (xws yX12_varsMany cX12_varsMany 4 (some .int)) jr_X12_varsMany (xPc D ty h [.ref v0, .int v1]) (xQ D ty (some (.int r)) h) 0 0 (xdom ty) := by
  refine x_met (by decide) ?_
  intro p e s m below meth c C0 hR
  generalize hargs : ([.ref v0, .int v1] : List Value).toArray = args at C0 ⊢
  have hx := C0.1
  have hb := C0.2.1
  have hown := C0.2.2.2.2.2.1
  have hts := C0.2.2.2.2.2.2.1
  have hS : xS ty s.heap s.heap [] := xS.rf
  have hl := lv_entry ([.ref v0, .int v1]) (n := 4) (Nat.le_of_ble_eq_true rfl)
  rw [← hargs, lg_entry_eq]
  rw [hargs]
  generalize (lg_sl ([.ref v0, .int v1]) ++ List.replicate (4 - (lg_sl ([.ref v0, .int v1])).length) Slot.unset).toArray = ls at hl ⊢
  have hl : lv_has ls 4 [(0, .ref v0), (1, .int v1)] := hl
  unfold jf_X12_varsMany at hF
  refine lv_iconst (v := 0) hx hb dX12_varsMany_0 (by decide) ?_
  refine lv_istore_n (lv' := [(2, .int 0), (0, .ref v0), (1, .int v1)]) hx hb dX12_varsMany_1 rfl hl (by decide) rfl (fun ls hl => ?_)
  refine lv_iconst (v := 0) hx hb dX12_varsMany_2 (by decide) ?_
  refine lv_istore_n (lv' := [(3, .int 0), (2, .int 0), (0, .ref v0), (1, .int v1)]) hx hb dX12_varsMany_3 rfl hl (by decide) rfl (fun ls hl => ?_)
  obtain ⟨_, hF⟩ := xlim_sp hF
  exact jw_X12_varsMany_4 C0 _ _ _ _ _ t_v0 hF _ _ hR hS _ (lv_sub hl [2, 3, 1, 0] rfl)
theorem xm_X12_varsMany : xMw yX12_varsMany cX12_varsMany 4 (some .int) 1 := ⟨xin 1780 (by decide +kernel) rfl, xin 126 (by decide +kernel) rfl, by decide +kernel⟩
theorem xi_X12_varsMany : Cond.instanceMethod yX12_varsMany ∈ xT := xin 1779 (by decide +kernel) rfl
theorem xe_X12_varsMany : Cond.selects yX12_varsMany.cls yX12_varsMany yX12_varsMany ∈ xT := xin 99 (by decide +kernel) rfl
theorem dX12_isAgain_0 : decode cX12_isAgain 0 = .ok (.iconst 0, 1) := by decide +kernel
theorem dX12_isAgain_1 : decode cX12_isAgain 1 = .ok (.istore_n 2, 1) := by decide +kernel
theorem dX12_isAgain_2 : decode cX12_isAgain 2 = .ok (.iconst 0, 1) := by decide +kernel
theorem dX12_isAgain_3 : decode cX12_isAgain 3 = .ok (.istore_n 3, 1) := by decide +kernel
theorem dX12_isAgain_4 : decode cX12_isAgain 4 = .ok (.iload_n 3, 1) := by decide +kernel
theorem dX12_isAgain_5 : decode cX12_isAgain 5 = .ok (.aload_n 0, 1) := by decide +kernel
theorem dX12_isAgain_6 : decode cX12_isAgain 6 = .ok (.getfield 32, 3) := by decide +kernel
theorem dX12_isAgain_9 : decode cX12_isAgain 9 = .ok (.iload_n 1, 1) := by decide +kernel
theorem dX12_isAgain_10 : decode cX12_isAgain 10 = .ok (.iaload, 1) := by decide +kernel
theorem dX12_isAgain_11 : decode cX12_isAgain 11 = .ok (.if_icmp .ge 33, 3) := by decide +kernel
theorem dX12_isAgain_14 : decode cX12_isAgain 14 = .ok (.iload_n 2, 1) := by decide +kernel
theorem dX12_isAgain_15 : decode cX12_isAgain 15 = .ok (.aload_n 0, 1) := by decide +kernel
theorem dX12_isAgain_16 : decode cX12_isAgain 16 = .ok (.getfield 35, 3) := by decide +kernel
theorem dX12_isAgain_19 : decode cX12_isAgain 19 = .ok (.bipush 12, 2) := by decide +kernel
theorem dX12_isAgain_21 : decode cX12_isAgain 21 = .ok (.iload_n 1, 1) := by decide +kernel
theorem dX12_isAgain_22 : decode cX12_isAgain 22 = .ok (.imul, 1) := by decide +kernel
theorem dX12_isAgain_23 : decode cX12_isAgain 23 = .ok (.iload_n 3, 1) := by decide +kernel
theorem dX12_isAgain_24 : decode cX12_isAgain 24 = .ok (.iadd, 1) := by decide +kernel
theorem dX12_isAgain_25 : decode cX12_isAgain 25 = .ok (.iaload, 1) := by decide +kernel
theorem dX12_isAgain_26 : decode cX12_isAgain 26 = .ok (.bipush 100, 2) := by decide +kernel
theorem dX12_isAgain_28 : decode cX12_isAgain 28 = .ok (.if_icmp .lt 7, 3) := by decide +kernel
theorem dX12_isAgain_31 : decode cX12_isAgain 31 = .ok (.iconst 1, 1) := by decide +kernel
theorem dX12_isAgain_32 : decode cX12_isAgain 32 = .ok (.goto 4, 3) := by decide +kernel
theorem dX12_isAgain_35 : decode cX12_isAgain 35 = .ok (.iconst 0, 1) := by decide +kernel
theorem dX12_isAgain_36 : decode cX12_isAgain 36 = .ok (.iadd, 1) := by decide +kernel
theorem dX12_isAgain_37 : decode cX12_isAgain 37 = .ok (.istore_n 2, 1) := by decide +kernel
theorem dX12_isAgain_38 : decode cX12_isAgain 38 = .ok (.iinc 3 1, 3) := by decide +kernel
theorem dX12_isAgain_41 : decode cX12_isAgain 41 = .ok (.goto (-37), 3) := by decide +kernel
theorem dX12_isAgain_44 : decode cX12_isAgain 44 = .ok (.iload_n 2, 1) := by decide +kernel
theorem dX12_isAgain_45 : decode cX12_isAgain 45 = .ok (.aload_n 0, 1) := by decide +kernel
theorem dX12_isAgain_46 : decode cX12_isAgain 46 = .ok (.iload_n 1, 1) := by decide +kernel
theorem dX12_isAgain_47 : decode cX12_isAgain 47 = .ok (.invokevirtual 349, 3) := by decide +kernel
theorem dX12_isAgain_50 : decode cX12_isAgain 50 = .ok (.if_icmp .le 7, 3) := by decide +kernel
theorem dX12_isAgain_53 : decode cX12_isAgain 53 = .ok (.iconst 1, 1) := by decide +kernel
theorem dX12_isAgain_54 : decode cX12_isAgain 54 = .ok (.goto 4, 3) := by decide +kernel
theorem dX12_isAgain_57 : decode cX12_isAgain 57 = .ok (.iconst 0, 1) := by decide +kernel
theorem dX12_isAgain_58 : decode cX12_isAgain 58 = .ok (.ireturn, 1) := by decide +kernel
theorem wl_X12_349 : Cond.methodLink RX12 349 yX12_varsMany ∈ xT := xin 1777 (by decide +kernel) rfl
section XN_X12_isAgain
variable {p : Program} {l : Launch} {e : Env} {R : Room} {s : State} {m : MethodId} {args : Array Value} {below : List Frame} {meth : Method} {c : Code} {H H0 : Heap} {locs : List Loc} {cells slots : Nat} {Q : State → Prop} {cc : ByteArray} {nL pc : Nat} {rt : Option FieldType} {ls : Array Slot} {rest : List Value} {D : xD} {ty : xTy} {h : xH}
theorem cl_X12_349 {v0 : Nat} {v1 : Int32} {r : Int32} (C0 : xC D RX12 cc nL rt p s m args meth c) (hR : xRep D ty h H) (hS : xS ty H0 H locs) (hF : jf_X12_varsMany ty h v0 v1 = some r) (t_v0 : ty v0 = some (0, 12)) (hrm : jr_X12_varsMany.frames + 1 ≤ R.frames ∧ 8 + (4 + 11) + jr_X12_varsMany.locals ≤ R.locals) (hsz : ls.size = nL) (hW : (rest.map fun v => v.category).sum ≤ 8) (hf : cells ≤ R.cells ∧ slots ≤ R.slots) (hdg : decode cc pc = .ok (.invokevirtual 349, 3)) (kk : ∀ (H1 : Heap) (locs1 : List Loc), xRep D ty h H1 → xS ty H0 H1 locs1 → W p l e R s m args below meth c H1 locs1 cells slots Q (F0 m (pc + 3) ls (.int r :: rest))) : W p l e R s m args below meth c H locs cells slots Q (F0 m pc ls (.int v1 :: .ref v0 :: rest)) := x_callV C0 (jc_X12_varsMany t_v0 hF) xm_X12_varsMany xi_X12_varsMany xe_X12_varsMany wl_X12_349 ⟨rfl, rfl, hrm⟩ (ci := 12) rfl t_v0 hR hS (As := [.int v1]) rfl hsz rfl hW hdg hf kk
end XN_X12_isAgain
set_option maxHeartbeats 4000000 in
set_option maxRecDepth 100000 in
theorem jw_X12_isAgain_4 {p : Program} {l : Launch} {e : Env} {s : State} {m : MethodId} {args : Array Value} {below : List Frame} {meth : Method} {c : Code} {D : xD} {ty : xTy} {h : xH} (C0 : xC D RX12 cX12_isAgain 4 (some .boolean) p s m args meth c) {r : Int32} : ∀ n : Nat, ∀ (v0 : Nat) (v1 : Int32) (v2 : Int32) (v3 : Int32), ty v0 = some (0, 12) → jf_X12_isAgain_4 ty h n v0 v1 v2 v3 = some r → ∀ (H : Heap) (locs : List Loc), xRep D ty h H → xS ty s.heap H locs → ∀ ls : Array Slot, lv_has ls 4 [(0, .ref v0), (1, .int v1), (2, .int v2), (3, .int v3)] → W p l e jr_X12_isAgain s m args below meth c H locs 0 0 (MQ below (xQ D ty (some (.int r)) h) args s 0 0 (xdom ty)) (F0 m 4 ls []) := by
  have hx := C0.1
  have hb := C0.2.1
  have hown := C0.2.2.2.2.2.1
  have hts := C0.2.2.2.2.2.2.1
  intro n
  induction n with
  | zero =>
    intro v0 v1 v2 v3 t_v0 hF H locs hR hS ls hl
    cases hF
  | succ n ih =>
    intro v0 v1 v2 v3 t_v0 hF H locs hR hS ls hl
    rw [jf_X12_isAgain_4_s] at hF
    refine lv_iload_n hx hb dX12_isAgain_4 rfl (lv_at hl 3 rfl) ?_
    refine lv_aload_n hx hb dX12_isAgain_5 rfl (lv_at hl 0 rfl) ?_
    obtain ⟨a1, e_a1, hF⟩ := xbd hF
    refine gf_X12_32 C0 hR t_v0 e_a1 dX12_isAgain_6 ?_
    refine lv_iload_n hx hb dX12_isAgain_9 rfl (lv_at hl 1 rfl) ?_
    obtain ⟨a2, e_a2, hF⟩ := xbd hF
    refine x_iald C0 hR e_a2 dX12_isAgain_10 ?_
    refine lv_icmp_ge (tgt := 44) hx hb dX12_isAgain_11 (by decide) (fun c3 => ?_) (fun c3 => ?_)
    · have hF := xif hF c3
      refine lv_iload_n hx hb dX12_isAgain_44 rfl (lv_at hl 2 rfl) ?_
      refine lv_aload_n hx hb dX12_isAgain_45 rfl (lv_at hl 0 rfl) ?_
      refine lv_iload_n hx hb dX12_isAgain_46 rfl (lv_at hl 1 rfl) ?_
      obtain ⟨a4, e_a4, hF⟩ := xbd hF
      refine cl_X12_349 C0 hR hS e_a4 t_v0 ⟨(Nat.le_of_ble_eq_true rfl), (Nat.le_of_ble_eq_true rfl)⟩ hl.1 (Nat.le_of_ble_eq_true rfl) ⟨(Nat.le_of_ble_eq_true rfl), (Nat.le_of_ble_eq_true rfl)⟩ dX12_isAgain_47 (fun H locs hR hS => ?_)
      refine lv_icmp_le (tgt := 57) hx hb dX12_isAgain_50 (by decide) (fun c5 => ?_) (fun c5 => ?_)
      · have hF := xif hF c5
        refine lv_iconst (v := 0) hx hb dX12_isAgain_57 (by decide) ?_
        cases hF
        exact x_zret (w := 0) C0 hR hS (by decide) dX12_isAgain_58
      · have hF := xel hF c5
        refine lv_iconst (v := 1) hx hb dX12_isAgain_53 (by decide) ?_
        refine lv_goto (tgt := 58) hx hb dX12_isAgain_54 (by decide) ?_
        cases hF
        exact x_zret (w := 1) C0 hR hS (by decide) dX12_isAgain_58
    · have hF := xel hF c3
      refine lv_iload_n hx hb dX12_isAgain_14 rfl (lv_at hl 2 rfl) ?_
      refine lv_aload_n hx hb dX12_isAgain_15 rfl (lv_at hl 0 rfl) ?_
      obtain ⟨a6, e_a6, hF⟩ := xbd hF
      refine gf_X12_35 C0 hR t_v0 e_a6 dX12_isAgain_16 ?_
      refine lv_bipush (v := 12) hx hb dX12_isAgain_19 (by decide) ?_
      refine lv_iload_n hx hb dX12_isAgain_21 rfl (lv_at hl 1 rfl) ?_
      refine lv_imul hx hb dX12_isAgain_22 ?_
      refine lv_iload_n hx hb dX12_isAgain_23 rfl (lv_at hl 3 rfl) ?_
      refine lv_iadd hx hb dX12_isAgain_24 ?_
      obtain ⟨a7, e_a7, hF⟩ := xbd hF
      refine x_iald C0 hR e_a7 dX12_isAgain_25 ?_
      refine lv_bipush (v := 100) hx hb dX12_isAgain_26 (by decide) ?_
      refine lv_icmp_lt (tgt := 35) hx hb dX12_isAgain_28 (by decide) (fun c8 => ?_) (fun c8 => ?_)
      · have hF := xif hF c8
        refine lv_iconst (v := 0) hx hb dX12_isAgain_35 (by decide) ?_
        refine lv_iadd hx hb dX12_isAgain_36 ?_
        refine lv_istore_n (lv' := [(2, .int (v2 + 0)), (0, .ref v0), (1, .int v1), (3, .int v3)]) hx hb dX12_isAgain_37 rfl hl (by decide) rfl (fun ls hl => ?_)
        refine lv_iinc (v := v3 + 1) (lv' := [(3, .int (v3 + 1)), (2, .int (v2 + 0)), (0, .ref v0), (1, .int v1)]) hx hb dX12_isAgain_38 hl (k := 3) rfl rfl (by decide) rfl (fun ls hl => ?_)
        refine lv_goto (tgt := 4) hx hb dX12_isAgain_41 (by decide) ?_
        exact ih _ _ _ _ t_v0 hF _ _ hR hS _ (lv_sub hl [2, 3, 1, 0] rfl)
      · have hF := xel hF c8
        refine lv_iconst (v := 1) hx hb dX12_isAgain_31 (by decide) ?_
        refine lv_goto (tgt := 36) hx hb dX12_isAgain_32 (by decide) ?_
        refine lv_iadd hx hb dX12_isAgain_36 ?_
        refine lv_istore_n (lv' := [(2, .int (v2 + 1)), (0, .ref v0), (1, .int v1), (3, .int v3)]) hx hb dX12_isAgain_37 rfl hl (by decide) rfl (fun ls hl => ?_)
        refine lv_iinc (v := v3 + 1) (lv' := [(3, .int (v3 + 1)), (2, .int (v2 + 1)), (0, .ref v0), (1, .int v1)]) hx hb dX12_isAgain_38 hl (k := 3) rfl rfl (by decide) rfl (fun ls hl => ?_)
        refine lv_goto (tgt := 4) hx hb dX12_isAgain_41 (by decide) ?_
        exact ih _ _ _ _ t_v0 hF _ _ hR hS _ (lv_sub hl [2, 3, 1, 0] rfl)
set_option maxHeartbeats 4000000 in
set_option maxRecDepth 100000 in
theorem jc_X12_isAgain {l : Launch} {D : xD} {ty : xTy} {h : xH} {v0 : Nat} {v1 : Int32} {r : Int32} (t_v0 : ty v0 = some (0, 12)) (hF : jf_X12_isAgain ty h v0 v1 = some r) : Met l yX12_isAgain (xws yX12_isAgain cX12_isAgain 4 (some .boolean)) jr_X12_isAgain (xPc D ty h [.ref v0, .int v1]) (xQ D ty (some (.int r)) h) 0 0 (xdom ty) := by
  refine x_met (by decide) ?_
  intro p e s m below meth c C0 hR
  generalize hargs : ([.ref v0, .int v1] : List Value).toArray = args at C0 ⊢
  have hx := C0.1
  have hb := C0.2.1
  have hown := C0.2.2.2.2.2.1
  have hts := C0.2.2.2.2.2.2.1
  have hS : xS ty s.heap s.heap [] := xS.rf
  have hl := lv_entry ([.ref v0, .int v1]) (n := 4) (Nat.le_of_ble_eq_true rfl)
  rw [← hargs, lg_entry_eq]
  rw [hargs]
  generalize (lg_sl ([.ref v0, .int v1]) ++ List.replicate (4 - (lg_sl ([.ref v0, .int v1])).length) Slot.unset).toArray = ls at hl ⊢
  have hl : lv_has ls 4 [(0, .ref v0), (1, .int v1)] := hl
  unfold jf_X12_isAgain at hF
  refine lv_iconst (v := 0) hx hb dX12_isAgain_0 (by decide) ?_
  refine lv_istore_n (lv' := [(2, .int 0), (0, .ref v0), (1, .int v1)]) hx hb dX12_isAgain_1 rfl hl (by decide) rfl (fun ls hl => ?_)
  refine lv_iconst (v := 0) hx hb dX12_isAgain_2 (by decide) ?_
  refine lv_istore_n (lv' := [(3, .int 0), (2, .int 0), (0, .ref v0), (1, .int v1)]) hx hb dX12_isAgain_3 rfl hl (by decide) rfl (fun ls hl => ?_)
  obtain ⟨_, hF⟩ := xlim_sp hF
  exact jw_X12_isAgain_4 C0 _ _ _ _ _ t_v0 hF _ _ hR hS _ (lv_sub hl [2, 3, 1, 0] rfl)
theorem xm_X12_isAgain : xMw yX12_isAgain cX12_isAgain 4 (some .boolean) 1 := ⟨xin 1788 (by decide +kernel) rfl, xin 126 (by decide +kernel) rfl, by decide +kernel⟩
theorem xi_X12_isAgain : Cond.instanceMethod yX12_isAgain ∈ xT := xin 1787 (by decide +kernel) rfl
theorem xe_X12_isAgain : Cond.selects yX12_isAgain.cls yX12_isAgain yX12_isAgain ∈ xT := xin 101 (by decide +kernel) rfl
theorem dX12_rule_0 : decode cX12_rule 0 = .ok (.aload_n 0, 1) := by decide +kernel
theorem dX12_rule_1 : decode cX12_rule 1 = .ok (.iconst 0, 1) := by decide +kernel
theorem dX12_rule_2 : decode cX12_rule 2 = .ok (.putfield 101, 3) := by decide +kernel
theorem dX12_rule_5 : decode cX12_rule 5 = .ok (.aload_n 0, 1) := by decide +kernel
theorem dX12_rule_6 : decode cX12_rule 6 = .ok (.iload_n 1, 1) := by decide +kernel
theorem dX12_rule_7 : decode cX12_rule 7 = .ok (.invokevirtual 282, 3) := by decide +kernel
theorem dX12_rule_10 : decode cX12_rule 10 = .ok (.ifCond .ne 9, 3) := by decide +kernel
theorem dX12_rule_13 : decode cX12_rule 13 = .ok (.aload_n 0, 1) := by decide +kernel
theorem dX12_rule_14 : decode cX12_rule 14 = .ok (.iconst 1, 1) := by decide +kernel
theorem dX12_rule_15 : decode cX12_rule 15 = .ok (.invokevirtual 352, 3) := by decide +kernel
theorem dX12_rule_18 : decode cX12_rule 18 = .ok (.ireturn, 1) := by decide +kernel
theorem dX12_rule_19 : decode cX12_rule 19 = .ok (.iload_n 2, 1) := by decide +kernel
theorem dX12_rule_20 : decode cX12_rule 20 = .ok (.tableswitch 79 0 4 #[36, 43, 50, 56, 65], 36) := by decide +kernel
theorem dX12_rule_56 : decode cX12_rule 56 = .ok (.aload_n 0, 1) := by decide +kernel
theorem dX12_rule_57 : decode cX12_rule 57 = .ok (.getfield 32, 3) := by decide +kernel
theorem dX12_rule_60 : decode cX12_rule 60 = .ok (.iload_n 1, 1) := by decide +kernel
theorem dX12_rule_61 : decode cX12_rule 61 = .ok (.iaload, 1) := by decide +kernel
theorem dX12_rule_62 : decode cX12_rule 62 = .ok (.ireturn, 1) := by decide +kernel
theorem dX12_rule_63 : decode cX12_rule 63 = .ok (.aload_n 0, 1) := by decide +kernel
theorem dX12_rule_64 : decode cX12_rule 64 = .ok (.getfield 38, 3) := by decide +kernel
theorem dX12_rule_67 : decode cX12_rule 67 = .ok (.iload_n 1, 1) := by decide +kernel
theorem dX12_rule_68 : decode cX12_rule 68 = .ok (.iaload, 1) := by decide +kernel
theorem dX12_rule_69 : decode cX12_rule 69 = .ok (.ireturn, 1) := by decide +kernel
theorem dX12_rule_70 : decode cX12_rule 70 = .ok (.aload_n 0, 1) := by decide +kernel
theorem dX12_rule_71 : decode cX12_rule 71 = .ok (.iload_n 1, 1) := by decide +kernel
theorem dX12_rule_72 : decode cX12_rule 72 = .ok (.invokevirtual 349, 3) := by decide +kernel
theorem dX12_rule_75 : decode cX12_rule 75 = .ok (.ireturn, 1) := by decide +kernel
theorem dX12_rule_76 : decode cX12_rule 76 = .ok (.aload_n 0, 1) := by decide +kernel
theorem dX12_rule_77 : decode cX12_rule 77 = .ok (.getfield 185, 3) := by decide +kernel
theorem dX12_rule_80 : decode cX12_rule 80 = .ok (.iload_n 1, 1) := by decide +kernel
theorem dX12_rule_81 : decode cX12_rule 81 = .ok (.ishr, 1) := by decide +kernel
theorem dX12_rule_82 : decode cX12_rule 82 = .ok (.iconst 1, 1) := by decide +kernel
theorem dX12_rule_83 : decode cX12_rule 83 = .ok (.iand, 1) := by decide +kernel
theorem dX12_rule_84 : decode cX12_rule 84 = .ok (.ireturn, 1) := by decide +kernel
theorem dX12_rule_85 : decode cX12_rule 85 = .ok (.aload_n 0, 1) := by decide +kernel
theorem dX12_rule_86 : decode cX12_rule 86 = .ok (.iload_n 1, 1) := by decide +kernel
theorem dX12_rule_87 : decode cX12_rule 87 = .ok (.invokevirtual 355, 3) := by decide +kernel
theorem dX12_rule_90 : decode cX12_rule 90 = .ok (.ifCond .eq 7, 3) := by decide +kernel
theorem dX12_rule_93 : decode cX12_rule 93 = .ok (.iconst 1, 1) := by decide +kernel
theorem dX12_rule_94 : decode cX12_rule 94 = .ok (.goto 4, 3) := by decide +kernel
theorem dX12_rule_97 : decode cX12_rule 97 = .ok (.iconst 0, 1) := by decide +kernel
theorem dX12_rule_98 : decode cX12_rule 98 = .ok (.ireturn, 1) := by decide +kernel
theorem dX12_rule_99 : decode cX12_rule 99 = .ok (.aload_n 0, 1) := by decide +kernel
theorem dX12_rule_100 : decode cX12_rule 100 = .ok (.iconst 2, 1) := by decide +kernel
theorem dX12_rule_101 : decode cX12_rule 101 = .ok (.invokevirtual 352, 3) := by decide +kernel
theorem dX12_rule_104 : decode cX12_rule 104 = .ok (.ireturn, 1) := by decide +kernel
theorem wl_X12_352 : Cond.methodLink RX12 352 yX12_fails ∈ xT := xin 1773 (by decide +kernel) rfl
theorem wl_X12_355 : Cond.methodLink RX12 355 yX12_isAgain ∈ xT := xin 1785 (by decide +kernel) rfl
section XN_X12_rule
variable {p : Program} {l : Launch} {e : Env} {R : Room} {s : State} {m : MethodId} {args : Array Value} {below : List Frame} {meth : Method} {c : Code} {H H0 : Heap} {locs : List Loc} {cells slots : Nat} {Q : State → Prop} {cc : ByteArray} {nL pc : Nat} {rt : Option FieldType} {ls : Array Slot} {rest : List Value} {D : xD} {ty : xTy} {h : xH}
theorem cl_X12_352 {v0 : Nat} {v1 : Int32} {r : Int32} {h9 : xH} (C0 : xC D RX12 cc nL rt p s m args meth c) (hR : xRep D ty h H) (hS : xS ty H0 H locs) (hF : jf_X12_fails ty h v0 v1 = some (r, h9)) (t_v0 : ty v0 = some (0, 12)) (hrm : jr_X12_fails.frames + 1 ≤ R.frames ∧ 8 + (2 + 11) + jr_X12_fails.locals ≤ R.locals) (hsz : ls.size = nL) (hW : (rest.map fun v => v.category).sum ≤ 8) (hf : cells ≤ R.cells ∧ slots ≤ R.slots) (hdg : decode cc pc = .ok (.invokevirtual 352, 3)) (kk : ∀ (H1 : Heap) (locs1 : List Loc), xRep D ty h9 H1 → xS ty H0 H1 locs1 → W p l e R s m args below meth c H1 locs1 cells slots Q (F0 m (pc + 3) ls (.int r :: rest))) : W p l e R s m args below meth c H locs cells slots Q (F0 m pc ls (.int v1 :: .ref v0 :: rest)) := x_callV C0 (jc_X12_fails t_v0 hF) xm_X12_fails xi_X12_fails xe_X12_fails wl_X12_352 ⟨rfl, rfl, hrm⟩ (ci := 12) rfl t_v0 hR hS (As := [.int v1]) rfl hsz rfl hW hdg hf kk
theorem cl_X12_355 {v0 : Nat} {v1 : Int32} {r : Int32} (C0 : xC D RX12 cc nL rt p s m args meth c) (hR : xRep D ty h H) (hS : xS ty H0 H locs) (hF : jf_X12_isAgain ty h v0 v1 = some r) (t_v0 : ty v0 = some (0, 12)) (hrm : jr_X12_isAgain.frames + 1 ≤ R.frames ∧ 8 + (4 + 11) + jr_X12_isAgain.locals ≤ R.locals) (hsz : ls.size = nL) (hW : (rest.map fun v => v.category).sum ≤ 8) (hf : cells ≤ R.cells ∧ slots ≤ R.slots) (hdg : decode cc pc = .ok (.invokevirtual 355, 3)) (kk : ∀ (H1 : Heap) (locs1 : List Loc), xRep D ty h H1 → xS ty H0 H1 locs1 → W p l e R s m args below meth c H1 locs1 cells slots Q (F0 m (pc + 3) ls (.int r :: rest))) : W p l e R s m args below meth c H locs cells slots Q (F0 m pc ls (.int v1 :: .ref v0 :: rest)) := x_callV C0 (jc_X12_isAgain t_v0 hF) xm_X12_isAgain xi_X12_isAgain xe_X12_isAgain wl_X12_355 ⟨rfl, rfl, hrm⟩ (ci := 12) rfl t_v0 hR hS (As := [.int v1]) rfl hsz rfl hW hdg hf kk
end XN_X12_rule
set_option maxHeartbeats 4000000 in
set_option maxRecDepth 100000 in
theorem jc_X12_rule {l : Launch} {D : xD} {ty : xTy} {h : xH} {v0 : Nat} {v1 : Int32} {v2 : Int32} {r : Int32} {h9 : xH} (t_v0 : ty v0 = some (0, 12)) (hF : jf_X12_rule ty h v0 v1 v2 = some (r, h9)) : Met l yX12_rule (xws yX12_rule cX12_rule 3 (some .int)) jr_X12_rule (xPc D ty h [.ref v0, .int v1, .int v2]) (xQ D ty (some (.int r)) h9) 0 0 (xdom ty) := by
  refine x_met (by decide) ?_
  intro p e s m below meth c C0 hR
  generalize hargs : ([.ref v0, .int v1, .int v2] : List Value).toArray = args at C0 ⊢
  have hx := C0.1
  have hb := C0.2.1
  have hown := C0.2.2.2.2.2.1
  have hts := C0.2.2.2.2.2.2.1
  have hS : xS ty s.heap s.heap [] := xS.rf
  have hl := lv_entry ([.ref v0, .int v1, .int v2]) (n := 3) (Nat.le_of_ble_eq_true rfl)
  rw [← hargs, lg_entry_eq]
  rw [hargs]
  generalize (lg_sl ([.ref v0, .int v1, .int v2]) ++ List.replicate (3 - (lg_sl ([.ref v0, .int v1, .int v2])).length) Slot.unset).toArray = ls at hl ⊢
  have hl : lv_has ls 3 [(0, .ref v0), (1, .int v1), (2, .int v2)] := hl
  unfold jf_X12_rule at hF
  refine lv_aload_n hx hb dX12_rule_0 rfl (lv_at hl 0 rfl) ?_
  refine lv_iconst (v := 0) hx hb dX12_rule_1 (by decide) ?_
  obtain ⟨h1, e_h1, hF⟩ := xbd hF
  refine pf_X12_101 C0 hR hS t_v0 dX12_rule_2 (fun H locs hR hS => ?_)
  rw [Option.some.inj e_h1] at hR
  refine lv_aload_n hx hb dX12_rule_5 rfl (lv_at hl 0 rfl) ?_
  refine lv_iload_n hx hb dX12_rule_6 rfl (lv_at hl 1 rfl) ?_
  obtain ⟨a2, e_a2, hF⟩ := xbd hF
  refine cl_X12_282 C0 hR hS e_a2 t_v0 ⟨(Nat.le_of_ble_eq_true rfl), (Nat.le_of_ble_eq_true rfl)⟩ hl.1 (Nat.le_of_ble_eq_true rfl) ⟨(Nat.le_of_ble_eq_true rfl), (Nat.le_of_ble_eq_true rfl)⟩ dX12_rule_7 (fun H locs hR hS => ?_)
  refine lv_if_ne (tgt := 19) hx hb dX12_rule_10 (by decide) (fun c3 => ?_) (fun c3 => ?_)
  · have hF := xel hF c3
    refine lv_iload_n hx hb dX12_rule_19 rfl (lv_at hl 2 rfl) ?_
    by_cases c4 : v2 = 0
    · have hF := xif hF c4
      refine lv_tableIn (tgt := 56) (off := 36) hx hb dX12_rule_20 (by rw [c4]; decide) (by rw [c4]; decide) (by rw [c4]; rfl) (by decide) ?_
      refine lv_aload_n hx hb dX12_rule_56 rfl (lv_at hl 0 rfl) ?_
      obtain ⟨a5, e_a5, hF⟩ := xbd hF
      refine gf_X12_32 C0 hR t_v0 e_a5 dX12_rule_57 ?_
      refine lv_iload_n hx hb dX12_rule_60 rfl (lv_at hl 1 rfl) ?_
      obtain ⟨a6, e_a6, hF⟩ := xbd hF
      refine x_iald C0 hR e_a6 dX12_rule_61 ?_
      cases hF
      exact x_iret C0 hR hS dX12_rule_62
    · have hF := xel hF c4
      by_cases c7 : v2 = 1
      · have hF := xif hF c7
        refine lv_tableIn (tgt := 63) (off := 43) hx hb dX12_rule_20 (by rw [c7]; decide) (by rw [c7]; decide) (by rw [c7]; rfl) (by decide) ?_
        refine lv_aload_n hx hb dX12_rule_63 rfl (lv_at hl 0 rfl) ?_
        obtain ⟨a8, e_a8, hF⟩ := xbd hF
        refine gf_X12_38 C0 hR t_v0 e_a8 dX12_rule_64 ?_
        refine lv_iload_n hx hb dX12_rule_67 rfl (lv_at hl 1 rfl) ?_
        obtain ⟨a9, e_a9, hF⟩ := xbd hF
        refine x_iald C0 hR e_a9 dX12_rule_68 ?_
        cases hF
        exact x_iret C0 hR hS dX12_rule_69
      · have hF := xel hF c7
        by_cases c10 : v2 = 2
        · have hF := xif hF c10
          refine lv_tableIn (tgt := 70) (off := 50) hx hb dX12_rule_20 (by rw [c10]; decide) (by rw [c10]; decide) (by rw [c10]; rfl) (by decide) ?_
          refine lv_aload_n hx hb dX12_rule_70 rfl (lv_at hl 0 rfl) ?_
          refine lv_iload_n hx hb dX12_rule_71 rfl (lv_at hl 1 rfl) ?_
          obtain ⟨a11, e_a11, hF⟩ := xbd hF
          refine cl_X12_349 C0 hR hS e_a11 t_v0 ⟨(Nat.le_of_ble_eq_true rfl), (Nat.le_of_ble_eq_true rfl)⟩ hl.1 (Nat.le_of_ble_eq_true rfl) ⟨(Nat.le_of_ble_eq_true rfl), (Nat.le_of_ble_eq_true rfl)⟩ dX12_rule_72 (fun H locs hR hS => ?_)
          cases hF
          exact x_iret C0 hR hS dX12_rule_75
        · have hF := xel hF c10
          by_cases c12 : v2 = 3
          · have hF := xif hF c12
            refine lv_tableIn (tgt := 76) (off := 56) hx hb dX12_rule_20 (by rw [c12]; decide) (by rw [c12]; decide) (by rw [c12]; rfl) (by decide) ?_
            refine lv_aload_n hx hb dX12_rule_76 rfl (lv_at hl 0 rfl) ?_
            refine gf_X12_185 C0 hR t_v0 dX12_rule_77 ?_
            refine lv_iload_n hx hb dX12_rule_80 rfl (lv_at hl 1 rfl) ?_
            refine lv_ishr hx hb dX12_rule_81 ?_
            refine lv_iconst (v := 1) hx hb dX12_rule_82 (by decide) ?_
            refine lv_iand hx hb dX12_rule_83 ?_
            cases hF
            exact x_iret C0 hR hS dX12_rule_84
          · have hF := xel hF c12
            by_cases c13 : v2 = 4
            · have hF := xif hF c13
              refine lv_tableIn (tgt := 85) (off := 65) hx hb dX12_rule_20 (by rw [c13]; decide) (by rw [c13]; decide) (by rw [c13]; rfl) (by decide) ?_
              refine lv_aload_n hx hb dX12_rule_85 rfl (lv_at hl 0 rfl) ?_
              refine lv_iload_n hx hb dX12_rule_86 rfl (lv_at hl 1 rfl) ?_
              obtain ⟨a14, e_a14, hF⟩ := xbd hF
              refine cl_X12_355 C0 hR hS e_a14 t_v0 ⟨(Nat.le_of_ble_eq_true rfl), (Nat.le_of_ble_eq_true rfl)⟩ hl.1 (Nat.le_of_ble_eq_true rfl) ⟨(Nat.le_of_ble_eq_true rfl), (Nat.le_of_ble_eq_true rfl)⟩ dX12_rule_87 (fun H locs hR hS => ?_)
              refine lv_if_eq (tgt := 97) hx hb dX12_rule_90 (by decide) (fun c15 => ?_) (fun c15 => ?_)
              · have hF := xif hF c15
                refine lv_iconst (v := 0) hx hb dX12_rule_97 (by decide) ?_
                cases hF
                exact x_iret C0 hR hS dX12_rule_98
              · have hF := xel hF c15
                refine lv_iconst (v := 1) hx hb dX12_rule_93 (by decide) ?_
                refine lv_goto (tgt := 98) hx hb dX12_rule_94 (by decide) ?_
                cases hF
                exact x_iret C0 hR hS dX12_rule_98
            · have hF := xel hF c13
              have g_c4 : ¬ (v2).toInt = 0 := fun z => c4 (Int32.toInt_inj.mp (z.trans (by decide)))
              have g_c7 : ¬ (v2).toInt = 1 := fun z => c7 (Int32.toInt_inj.mp (z.trans (by decide)))
              have g_c10 : ¬ (v2).toInt = 2 := fun z => c10 (Int32.toInt_inj.mp (z.trans (by decide)))
              have g_c12 : ¬ (v2).toInt = 3 := fun z => c12 (Int32.toInt_inj.mp (z.trans (by decide)))
              have g_c13 : ¬ (v2).toInt = 4 := fun z => c13 (Int32.toInt_inj.mp (z.trans (by decide)))
              refine lv_tableOut (tgt := 99) hx hb dX12_rule_20 (by omega) (by decide) ?_
              refine lv_aload_n hx hb dX12_rule_99 rfl (lv_at hl 0 rfl) ?_
              refine lv_iconst (v := 2) hx hb dX12_rule_100 (by decide) ?_
              obtain ⟨a17, h16, e_h16, hF⟩ := xbd2 hF
              refine cl_X12_352 C0 hR hS e_h16 t_v0 ⟨(Nat.le_of_ble_eq_true rfl), (Nat.le_of_ble_eq_true rfl)⟩ hl.1 (Nat.le_of_ble_eq_true rfl) ⟨(Nat.le_of_ble_eq_true rfl), (Nat.le_of_ble_eq_true rfl)⟩ dX12_rule_101 (fun H locs hR hS => ?_)
              cases hF
              exact x_iret C0 hR hS dX12_rule_104
  · have hF := xif hF c3
    refine lv_aload_n hx hb dX12_rule_13 rfl (lv_at hl 0 rfl) ?_
    refine lv_iconst (v := 1) hx hb dX12_rule_14 (by decide) ?_
    obtain ⟨a19, h18, e_h18, hF⟩ := xbd2 hF
    refine cl_X12_352 C0 hR hS e_h18 t_v0 ⟨(Nat.le_of_ble_eq_true rfl), (Nat.le_of_ble_eq_true rfl)⟩ hl.1 (Nat.le_of_ble_eq_true rfl) ⟨(Nat.le_of_ble_eq_true rfl), (Nat.le_of_ble_eq_true rfl)⟩ dX12_rule_15 (fun H locs hR hS => ?_)
    cases hF
    exact x_iret C0 hR hS dX12_rule_18
theorem xm_X12_rule : xMw yX12_rule cX12_rule 3 (some .int) 2 := ⟨xin 1772 (by decide +kernel) rfl, xin 126 (by decide +kernel) rfl, by decide +kernel⟩
theorem xi_X12_rule : Cond.instanceMethod yX12_rule ∈ xT := xin 1770 (by decide +kernel) rfl
theorem xe_X12_rule : Cond.selects yX12_rule.cls yX12_rule yX12_rule ∈ xT := xin 1771 (by decide +kernel) rfl
