/-! THE STATE that both programs hold -/
abbrev Bk : Type := (Nat × Nat × Nat) × ((Nat → Int32) × (Nat → Int32) × (Nat → Int32)) × (Nat → Nat) × (Nat → List Nat) × (Nat → List Nat)
def bns (b : Bk) : Nat := b.1.1
def bnv (b : Bk) : Nat := b.1.2.1
def bnr (b : Bk) : Nat := b.1.2.2
def bsn (b : Bk) : Nat → Int32 := b.2.1.1
def bvn (b : Bk) : Nat → Int32 := b.2.1.2.1
def brn (b : Bk) : Nat → Int32 := b.2.1.2.2
def bsa (b : Bk) : Nat → Nat := b.2.2.1
def bT (b : Bk) : Nat → List Nat := b.2.2.2.1
def bU (b : Bk) : Nat → List Nat := b.2.2.2.2
def bar (b : Bk) (d : Nat) : Nat := if d < 100 then bsa b d else 0
theorem bar_z (b : Bk) : ∀ d, 100 ≤ d → bar b d = 0 := fun d h => by unfold bar; rw [if_neg (by omega)]
def vc (b : Bk) (d : Nat) : Prop := d < bns b ∨ (100 ≤ d ∧ d < 100 + bnv b)
def twf (b : Bk) (L : List Nat) : Prop := tms (bar b) 1 L ∧ L.length ≤ 12 ∧ ∀ d ∈ L, vc b d
def bwf (b : Bk) : Prop := bns b ≤ 8 ∧ bnv b ≤ 4 ∧ bnr b ≤ 16 ∧ (∀ d, bsa b d ≤ 3) ∧ ∀ r, r < bnr b → twf b (bT b r) ∧ (bU b r = [] ∨ (twf b (bU b r) ∧ ∀ d ∈ bU b r, 100 ≤ d → d ∈ bT b r))
theorem bar_le {b : Bk} (h : bwf b) (d : Nat) : bar b d ≤ 3 := by
  unfold bar
  split
  · exact h.2.2.2.1 d
  · omega
theorem vc_lt {b : Bk} (h : bwf b) {d : Nat} (hd : vc b d) : d < 104 := by
  have h1 := h.1
  have h2 := h.2.1
  unfold vc at hd
  omega
theorem twf.lt {b : Bk} (h : bwf b) {L : List Nat} (hL : twf b L) : ∀ d ∈ L, d < 104 := fun d hd => vc_lt h (hL.2.2 d hd)
theorem twf.ar {b : Bk} (h : bwf b) {L : List Nat} (hL : twf b L) : ∀ d ∈ L, bar b d ≤ 3 ∧ d < 1000 := fun d hd => ⟨bar_le h d, by have := hL.lt h d hd; omega⟩
theorem twf.pos {b : Bk} {L : List Nat} (hL : twf b L) : 1 ≤ L.length := by have := tms_len hL.1; omega
/-- book, query, which rules are in, what was so ahead, the image, the tape, the fault -/
abbrev Sg : Type := Bk × List Nat × Nat × List Nat × Option Nat × (Nat × (Nat → Int32)) × (Int × Int)
def gb (g : Sg) : Bk := g.1
def gq (g : Sg) : List Nat := g.2.1
def gin (g : Sg) : Nat := g.2.2.1
def gun (g : Sg) : List Nat := g.2.2.2.1
def gim (g : Sg) : Option Nat := g.2.2.2.2.1
def gtp (g : Sg) : Nat × (Nat → Int32) := g.2.2.2.2.2.1
def gfl (g : Sg) : Int × Int := g.2.2.2.2.2.2
def gwf (g : Sg) : Prop := bwf (gb g) ∧ (gq g = [] ∨ twf (gb g) (gq g)) ∧ gin g < 2 ^ bnr (gb g) ∧ (gun g).length ≤ 20 ∧ (∀ x ∈ gun g, x < 2 ^ bnr (gb g)) ∧ (∀ x, gim g = some x → x < 2 ^ bnr (gb g)) ∧ (gtp g).1 ≤ 700 ∧ (∀ k, k < (gtp g).1 → ∃ n : Nat, n < 256 ∧ (gtp g).2 k = i32 n) ∧ -1 ≤ (gfl g).1 ∧ (gfl g).1 ≤ 1000 ∧ -1 ≤ (gfl g).2 ∧ (gfl g).2 ≤ 1000
def wordsR (k : Nat) : Int32 := i32 (([115, 105, 103, 110, 32, 118, 97, 114, 32, 114, 117, 108, 101, 32] : List Nat).getD k 0 : Nat)
/-- the reference holds a book -/
def RB (I : Nat → Int32) (A : Nat → Nat → Int32) (b : Bk) : Prop := I 12 = i32 (bns b) ∧ I 13 = i32 (bnv b) ∧ I 14 = i32 (bnr b) ∧ (∀ k, k < bns b → A 18 k = bsn b k ∧ A 19 k = i32 (bsa b k)) ∧ (∀ k, k < bnv b → A 20 k = bvn b k) ∧
  ∀ r, r < bnr b → A 21 r = brn b r ∧ A 22 r = i32 (bT b r).length ∧ seg (A 23) (12 * r) (bT b r) ∧ A 24 r = i32 (bU b r).length ∧ seg (A 25) (12 * r) (bU b r)
def RRep (I : Nat → Int32) (A : Nat → Nat → Int32) (g : Sg) : Prop := RB I A (gb g) ∧ I 26 = i32 (gin g) ∧ (seg (A 27) 0 (gq g) ∧ I 28 = i32 (gq g).length ∧ I 41 = i32 0) ∧ (I 56 = i32 (gun g).length ∧ seg (A 57) 0 (gun g)) ∧ (I 58 = bI (gim g).isSome ∧ ∀ x, gim g = some x → I 59 = i32 x) ∧
  (I 1 = i32 (gtp g).1 ∧ (∀ k, k < (gtp g).1 → A 0 k = (gtp g).2 k) ∧ ∀ k, k < 14 → A 3 k = wordsR k) ∧ I 4 = i32 (gfl g).1 ∧ I 5 = i32 (gfl g).2
def keepI (I I' : Nat → Int32) : Prop := ∀ k ∈ [1, 4, 5, 12, 13, 14, 26, 28, 41, 56, 58, 59], I' k = I k
def keepA (A A' : Nat → Nat → Int32) : Prop := ∀ k ∈ [0, 3, 18, 19, 20, 21, 22, 23, 24, 25, 27, 57], A' k = A k
theorem RB.keep {I I' : Nat → Int32} {A A' : Nat → Nat → Int32} {b : Bk} (h : RB I A b) (h1 : keepI I I') (h2 : keepA A A') : RB I' A' b := by
  unfold RB at *
  rw [h1 12 (by decide), h1 13 (by decide), h1 14 (by decide), h2 18 (by decide), h2 19 (by decide), h2 20 (by decide), h2 21 (by decide), h2 22 (by decide), h2 23 (by decide), h2 24 (by decide), h2 25 (by decide)]
  exact h
theorem RRep.keep {I I' : Nat → Int32} {A A' : Nat → Nat → Int32} {g : Sg} (h : RRep I A g) (h1 : keepI I I') (h2 : keepA A A') : RRep I' A' g := by
  unfold RRep at *
  rw [h1 26 (by decide), h1 28 (by decide), h1 41 (by decide), h1 56 (by decide), h1 58 (by decide), h1 59 (by decide), h1 1 (by decide), h1 4 (by decide), h1 5 (by decide), h2 27 (by decide), h2 57 (by decide), h2 0 (by decide), h2 3 (by decide)]
  exact ⟨h.1.keep h1 h2, h.2⟩
theorem keepI.rf {I : Nat → Int32} : keepI I I := fun _ _ => rfl
theorem keepA.rf {A : Nat → Nat → Int32} : keepA A A := fun _ _ => rfl
theorem keepI.tr {I J K : Nat → Int32} (h1 : keepI I J) (h2 : keepI J K) : keepI I K := fun k hk => (h2 k hk).trans (h1 k hk)
theorem keepA.tr {I J K : Nat → Nat → Int32} (h1 : keepA I J) (h2 : keepA J K) : keepA I K := fun k hk => (h2 k hk).trans (h1 k hk)
theorem keepI.fu {I : Nat → Int32} {k : Nat} {v : Int32} (hk : k ∉ [1, 4, 5, 12, 13, 14, 26, 28, 41, 56, 58, 59]) : keepI I (fu I k v) := fun x hx => fu_ne I v (fun e => hk (e ▸ hx))
theorem keepA.but {A A' : Nat → Nat → Int32} {k : Nat} (h : but k A A') (hk : k ∉ [0, 3, 18, 19, 20, 21, 22, 23, 24, 25, 27, 57]) : keepA A A' := fun x hx => h x (fun e => hk (e ▸ hx))
/-- where the class' references lie, for good -/
def lyL : List (Nat × Nat × Nat) := [(0, 0, 1), (0, 6, 220), (0, 7, 223), (0, 8, 226), (0, 9, 232), (0, 10, 234), (0, 11, 241), (0, 12, 243), (0, 13, 257), (0, 14, 263), (0, 15, 272),
  (2, 0, 3), (2, 1, 4), (2, 2, 5), (2, 3, 6), (2, 4, 7), (2, 5, 8), (2, 6, 9), (108, 0, 109), (108, 1, 110), (108, 2, 111), (108, 3, 112), (108, 4, 113), (108, 5, 114), (108, 6, 115),
  (226, 0, 227), (226, 1, 231), (227, 0, 228), (227, 1, 229), (227, 2, 230), (232, 0, 233), (234, 0, 235), (234, 1, 236), (234, 2, 237), (234, 3, 238), (241, 0, 242),
  (243, 0, 244), (243, 1, 245), (243, 2, 246), (243, 3, 247), (243, 4, 248), (243, 5, 249), (243, 6, 250), (243, 7, 251), (243, 8, 252), (243, 9, 253), (243, 10, 254),
  (257, 0, 258), (257, 1, 259), (257, 2, 260), (263, 0, 264), (264, 0, 265)]
def LY (c : CS) : Prop := (∀ e ∈ lyL, cR c e.1 e.2.1 = e.2.2) ∧ (∀ t, ct t = some (0, 7) → cR c t 0 = t + 1 ∧ cR c t 1 = t + 2) ∧ (∀ i, i < 16 → cP c 7 i = 12 + 6 * i ∧ cP c 8 i = 15 + 6 * i ∧ cP c 113 i = 118 + 6 * i ∧ cP c 114 i = 121 + 6 * i) ∧
  ((cR c 0 2 = 2 ∧ cR c 0 3 = 108) ∨ (cR c 0 2 = 108 ∧ cR c 0 3 = 2)) ∧ ((cR c 0 4 = 214 ∧ cR c 0 5 = 217) ∨ (cR c 0 4 = 217 ∧ cR c 0 5 = 214)) ∧ ((cR c 263 1 = 266 ∧ cR c 263 2 = 269) ∨ (cR c 263 1 = 269 ∧ cR c 263 2 = 266))
/-- the class holds a book at B -/
def CB (c : CS) (B : Nat) (b : Bk) : Prop := cI c B 7 = i32 (bns b) ∧ cI c B 8 = i32 (bnv b) ∧ cI c B 9 = i32 (bnr b) ∧ (∀ k, k < bns b → cA c (B + 1) k = bsn b k ∧ cA c (B + 2) k = i32 (bsa b k)) ∧ (∀ k, k < bnv b → cA c (B + 3) k = bvn b k) ∧
  ∀ r, r < bnr b → cA c (B + 4) r = brn b r ∧ isT c (B + 10 + 6 * r) 12 (bar b) (bT b r) ∧ isT c (B + 13 + 6 * r) 12 (bar b) (bU b r)
/-- how the rules came to be in: each turn changed one -/
def turns : List Nat → Nat → List Nat → Prop
  | [], _, [] => True
  | x :: us, z, t :: ts => (us ++ [z]).headD 0 = x ^^^ (1 <<< t) ∧ t < 16 ∧ turns us z ts
  | _, _, _ => False
def CSt (c : CS) (g : Sg) : Prop := cI c 232 4 = i32 (gin g) ∧ cI c 232 3 = i32 (gun g).length ∧ (∃ ts, seg (cA c 233) 0 ts ∧ turns (gun g) (gin g) ts) ∧ cI c 232 2 = bI (gim g).isSome ∧ ∀ x, gim g = some x → cI c 232 1 = i32 x
/-! the order of paths -/
def pth (T : List Nat) : List Nat := T.map star
def shp : List Nat → List Nat → Nat
  | a :: X, b :: Y => if a = b then shp X Y + 1 else 0
  | _, _ => 0
def rk (d : Nat) : Nat := if d = 100 then 0 else d + 1
/-- ahead by path alone -/
def ahd : List Nat → List Nat → Bool
  | a :: X, b :: Y => if a = b then ahd X Y else decide (rk a < rk b)
  | _, _ => false
def insO (b : Bk) (r : Nat) (l : List Nat) : List Nat := (l.reverse.dropWhile (fun x => ahd (pth (bT b r)) (pth (bT b x)))).reverse ++ r :: (l.reverse.takeWhile (fun x => ahd (pth (bT b r)) (pth (bT b x)))).reverse
def inR (z r : Nat) : Bool := Nat.testBit z r
def ordL (b : Bk) (z : Nat) : List Nat := ((List.range (bnr b)).filter (inR z)).foldl (fun l r => insO b r l) []
def shA (b : Bk) (l : List Nat) (i : Nat) : Nat := match i with
  | 0 => 0
  | i + 1 => shp (pth (bT b (l.getD (i + 1) 0))) (pth (bT b (l.getD i 0)))
def CTr (c : CS) (B : Nat) (b : Bk) (z : Nat) : Prop := cI c 234 4 = i32 (ordL b z).length ∧ ∀ (i r : Nat), (ordL b z)[i]? = some r → cA c 235 i = i32 r ∧ cP c 236 i = B + 10 + 6 * r ∧ cA c 237 i = i32 (shA b (ordL b z) i)
def CRep (c : CS) (g : Sg) : Prop := LY c ∧ CB c (cR c 0 2) (gb g) ∧ isT c (cR c 0 4) 12 (bar (gb g)) (gq g) ∧ CSt c g ∧ CTr c (cR c 0 2) (gb g) (gin g) ∧ (cI c 0 1 = i32 (gtp g).1 ∧ ∀ k, k < (gtp g).1 → cA c 1 k = (gtp g).2 k) ∧ cI c 226 3 = i32 (gfl g).1 ∧ cI c 226 4 = i32 (gfl g).2
theorem LY.bk {c : CS} (h : LY c) : cR c 0 2 = 2 ∨ cR c 0 2 = 108 := by rcases h.2.2.2.1 with h | h <;> simp [h.1]
theorem LY.as {c : CS} (h : LY c) : (cR c 0 4 = 214 ∨ cR c 0 4 = 217) ∧ (cR c 0 5 = 214 ∨ cR c 0 5 = 217) ∧ cR c 0 4 ≠ cR c 0 5 := by rcases h.2.2.2.2.1 with h | h <;> simp [h.1, h.2]
theorem LY.same {c c' : CS} (h : LY c) (e1 : cR c' = cR c) (e2 : cP c' = cP c) : LY c' := by
  unfold LY at *
  rw [e1, e2]
  exact h
theorem CB.keep {c c' : CS} {B : Nat} {b : Bk} (hb : bnr b ≤ 16) (h : CB c B b) (h1 : ∀ q, B ≤ q → q < B + 106 → cI c' q = cI c q ∧ cA c' q = cA c q ∧ cR c' q = cR c q) : CB c' B b := by
  unfold CB at *
  obtain ⟨a1, a2, a3, a4, a5, a6⟩ := h
  have k0 := h1 B (by omega) (by omega)
  have k1 := h1 (B + 1) (by omega) (by omega)
  have k2 := h1 (B + 2) (by omega) (by omega)
  have k3 := h1 (B + 3) (by omega) (by omega)
  have k4 := h1 (B + 4) (by omega) (by omega)
  rw [k0.1, k1.2.1, k2.2.1, k3.2.1, k4.2.1]
  refine ⟨a1, a2, a3, a4, a5, fun r hr => ?_⟩
  obtain ⟨c1, c2, c3⟩ := a6 r hr
  refine ⟨c1, c2.keep ?_ ?_ ?_ ?_, c3.keep ?_ ?_ ?_ ?_⟩
  · exact (h1 _ (by omega) (by omega)).1
  · exact (h1 _ (by omega) (by omega)).2.1
  · exact (h1 _ (by omega) (by omega)).2.1
  · exact (h1 _ (by omega) (by omega)).2.2
  · exact (h1 _ (by omega) (by omega)).1
  · exact (h1 _ (by omega) (by omega)).2.1
  · exact (h1 _ (by omega) (by omega)).2.1
  · exact (h1 _ (by omega) (by omega)).2.2
/-- nothing that counts has changed: all but the loose terms and what is behind the tree -/
theorem CRep.fr {c c' : CS} {g : Sg} {lo hi : Nat} (hg : gwf g) (h : CRep c g) (f : fr lo hi c c') (hd : (220 ≤ lo ∧ hi ≤ 226) ∨ 241 ≤ lo ∨ (227 ≤ lo ∧ hi ≤ 232) ∨ (lo = cR c 0 5 ∧ hi ≤ lo + 3)) : CRep c' g := by
  obtain ⟨h1, h2, h3, h4, h5, h6, h7⟩ := h
  have hB := h1.bk
  obtain ⟨a1, a2, a3⟩ := h1.as
  have e : ∀ q, (q < 214 ∨ (cR c 0 4 ≤ q ∧ q < cR c 0 4 + 3) ∨ q = 226 ∨ (232 ≤ q ∧ q < 241)) → cI c' q = cI c q ∧ cA c' q = cA c q := fun q hq => f.1 q (by omega)
  have eR := f.2.1
  have eP := f.2.2
  refine ⟨h1.same eR eP, ?_, ?_, ?_, ?_, ?_, ?_⟩
  · rw [eR]
    exact h2.keep hg.1.2.2.1 (fun q q1 q2 => ⟨(e q (by omega)).1, (e q (by omega)).2, by rw [eR]⟩)
  · rw [eR]
    exact h3.keep (e _ (by omega)).1 (e _ (by omega)).2 (e _ (by omega)).2 (by rw [eR])
  · unfold CSt at *
    rw [(e 232 (by omega)).1, (e 233 (by omega)).2]
    exact h4
  · unfold CTr at *
    rw [(e 234 (by omega)).1, (e 235 (by omega)).2, (e 237 (by omega)).2, eP, eR]
    exact h5
  · rw [(e 0 (by omega)).1, (e 1 (by omega)).2]
    exact h6
  · rw [(e 226 (by omega)).1]
    exact h7
