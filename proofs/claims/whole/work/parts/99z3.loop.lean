section LLOOP2
variable {p : Program} {l : Launch} {e : Env} {s : State} {m : MethodId} {below : List Frame} {meth : Method} {c : Code} {D : xD} {b L N : Nat} {xs : Nat → Int32} {sa1 sa2 : Nat}
set_option maxHeartbeats 1000000 in
theorem l_loop (C0 : xC D RL cL_law 7 ret p s m #[Value.ref b] meth c) (hlt : l.stackTraces = false) (hXw : lXw s sa1 sa2) (hB : lB b L xs s N) (hL : L ≤ 3072) :
    ∀ (n t : Nat), t + n = 513 → 6 * t ≤ L + 5 → ∀ (H : Heap) (locs : List Loc) (ls : Array Slot), lv_has ls 7 (lv5 b N (i32 ((6 * t : Nat) : Int))) → lWd D N s H locs → W p l e room_1 s m #[Value.ref b] below meth c H locs (302 + t) (20451 + 6 * t) (lw_Z below #[Value.ref b] s) (F0 m 23 ls []) := by
  have hx := C0.1
  have hb := C0.2.1
  intro n
  induction n with
  | zero => intro t h1 h2; omega
  | succ n ih =>
    intro t h1 h2 H locs ls hl hW
    obtain ⟨h0, cs, I, A, J, g, hH, hg, hc, hr, hR, hE⟩ := id hW
    refine lv_iload hx hb dL_law_23 (lv_at hl 4 rfl) ?_
    refine lv_aload_n hx hb dL_law_25 rfl (lv_at hl 0 rfl) ?_
    refine va_slen hx hb hB.1 hB.2.1 (Nat.not_le.mpr hB.2.1) (hE.va hB.2.2) dL_law_26 ?_
    refine lv_bipush (v := i32 6) hx hb dL_law_27 (by decide) ?_
    refine lv_isub hx hb dL_law_29 ?_
    rw [show Int32.ofNat L = i32 (L : Nat) from rfl, i32_sub]
    refine lv_icmp_gt (tgt := 1533) hx hb dL_law_30 (by decide) (fun _ => ?_) (fun z => ?_)
    · refine lv_iconst (v := 1) hx hb dL_law_1533 (by decide) ?_
      refine va_forget (fun q hq => (hE.va hB.2.2).2.2 q hq) ?_
      refine W.widen (k := 601024) (n := 7293034) (by omega) (by omega) ?_
      exact lw_ret hx hb C0.2.2.2.1 C0.2.2.2.2.1 dL_law_1534
    · rw [i32_lt (by omega) (by omega) (by omega) (by omega)] at z
      have hi : 6 * t + 6 ≤ L := by omega
      refine lv_aload_n hx hb dL_law_33 rfl (lv_at hl 0 rfl) ?_
      refine lv_iload hx hb dL_law_34 (lv_at hl 4 rfl) ?_
      refine l_ld C0 hB hE (show 6 * t < L by omega) hL dL_law_36 ?_
      refine lv_bipush (v := i32 63) hx hb dL_law_37 (by decide) ?_
      refine lv_iand hx hb dL_law_39 ?_
      obtain ⟨j, hj, ej⟩ := and63 (xs (6 * t))
      rw [ej]
      have hf : 302 + t + 1 ≤ 601024 ∧ 20451 + 6 * t + 6 ≤ 7293034 := ⟨by omega, by omega⟩
      refine l_switch C0 hlt hXw hB hW hl hi hL hf (fun ls1 H1 locs1 hl1 hW1 => ?_) j hj
      refine lv_iinc (v := i32 ((6 * (t + 1) : Nat) : Int)) (k := 4) (lv' := [(4, .int (i32 ((6 * (t + 1) : Nat) : Int))), (0, .ref b), (1, .ref (N + 0)), (2, .ref (N + 273)), (3, .ref (N + 301))]) hx hb dL_law_1527 hl1 rfl ?_ (by decide) rfl (fun ls2 hl2 => ?_)
      · show i32 _ + i32 6 = _
        rw [i32_add]
        congr 1
      refine lv_goto (tgt := 23) hx hb dL_law_1530 (by decide) ?_
      have := ih (t + 1) (by omega) (by omega) H1 locs1 ls2 (lv_sub hl2 [1, 2, 3, 4, 0] rfl) hW1
      rw [show 302 + (t + 1) = 302 + t + 1 by omega, show 20451 + 6 * (t + 1) = 20451 + 6 * t + 6 by omega] at this
      exact this
end LLOOP2
