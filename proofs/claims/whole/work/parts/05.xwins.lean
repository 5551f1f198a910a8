theorem hg_bltT {a b : Nat} : Nat.blt a b = true ↔ a < b := by
  unfold Nat.blt
  rw [Nat.ble_eq]
  exact Iff.rfl
theorem hg_bltF {a b : Nat} : Nat.blt a b = false ↔ b ≤ a := by
  constructor
  · intro h
    by_cases hl : a < b
    · rw [hg_bltT.mpr hl] at h
      exact Bool.noConfusion h
    · omega
  · intro h
    cases e : Nat.blt a b
    · rfl
    · have := hg_bltT.mp e
      omega
theorem hg_bleF {a b : Nat} : Nat.ble a b = false ↔ b < a := by
  constructor
  · intro h
    by_cases hl : a ≤ b
    · rw [Nat.ble_eq_true_of_le hl] at h
      exact Bool.noConfusion h
    · omega
  · intro h
    cases e : Nat.ble a b
    · rfl
    · have := Nat.le_of_ble_eq_true e
      omega
theorem hg_bleT {a b : Nat} : Nat.ble a b = true ↔ a ≤ b := by rw [Nat.ble_eq]
theorem hg_nar (b : Bool) : narrow .boolean (.int (hg_bI b)) = .int (hg_bI b) := by cases b <;> rfl
theorem hg_x3 {a b c : Nat} (ha : a ≤ 31) (hb : b ≤ 31) (hc : c ≤ 31) : a ^^^ b ^^^ c < 32 :=
  Nat.xor_lt_two_pow (n := 5) (Nat.xor_lt_two_pow (n := 5) (by omega) (by omega)) (by omega)
theorem hg_xI (a b c : Nat) : nI a ^^^ nI b ^^^ nI c = nI (a ^^^ b ^^^ c) := by rw [nx_xor, nx_xor]
theorem hx_lesser {post : Int32 → Prop} {a b : Nat} (ha : a < 2 ^ 31) (hb : b < 2 ^ 31) (h : post (nI (min a b))) : wpX_lesserOf post (nI a) (nI b) := by
  refine pk_le b a (fun hl => ?_) (fun hl => ?_) rfl rfl hb ha
  · have e : min a b = b := by omega
    rw [e] at h; exact h
  · have e : min a b = a := by omega
    rw [e] at h; exact h
theorem hx_og {post : Int32 → Prop} {x y : Nat} (hx : x ≤ 100) (hy : y ≤ 100) (h : post (hg_bI (hg_og x y))) : wpX_isOverGolden post (nI x) (nI y) := by
  have e1 : nI x * nI x = nI (x * x) := pk_mul x x
  have e2 : nI y * (nI x + nI y) = nI (y * (x + y)) := by rw [nI_add, pk_mul]
  have b1 : x * x ≤ 100 * 100 := Nat.mul_le_mul hx hx
  have b2 : y * (x + y) ≤ 100 * 200 := Nat.mul_le_mul hy (by omega)
  refine pk_le (x * x) (y * (x + y)) (fun hl => ?_) (fun hl => ?_) e1 e2 (by omega) (by omega)
  · have e : hg_og x y = false := hg_bltF.mpr hl
    rw [e] at h; exact h
  · have e : hg_og x y = true := hg_bltT.mpr hl
    rw [e] at h; exact h
theorem hx_w4 {post : Int32 → Prop} {a b : Nat} (ha : a ≤ 31) (hb : b ≤ 31) (h : post (hg_bI (hg_w4 a b))) : wpX_isWythoffWon post (nI a) (nI b) := by
  unfold wpX_isWythoffWon
  refine hx_lesser (by omega) (by omega) ?_
  have e2 : nI a + nI b - 2 * nI (min a b) = nI (a + b - 2 * min a b) := by
    show nI a + nI b - nI 2 * nI (min a b) = _
    rw [nI_add, pk_mul, pk_sub (by omega)]
  refine nm_r e2 ?_
  refine hx_og (by omega) (by omega) ?_
  unfold hg_w4 at h
  cases e : hg_og (min a b) (a + b - 2 * min a b)
  · rw [e] at h
    refine br_t rfl ?_
    rw [nI_1 (min a b)]
    refine hx_og (by omega) (by omega) ?_
    cases e' : hg_og (min a b + 1) (a + b - 2 * min a b)
    · rw [e'] at h
      exact br_t rfl h
    · rw [e'] at h
      exact br_f (by decide) h
  · rw [e] at h
    exact br_f (by decide) h
theorem hx_w5 {post : Int32 → Prop} {a b : Nat} (ha : a ≤ 31) (hb : b ≤ 31) (h : post (hg_bI (hg_w5 a b))) : wpX_isEuclidWon post (nI a) (nI b) := by
  unfold wpX_isEuclidWon
  refine hx_lesser (by omega) (by omega) ?_
  have e2 : nI a + nI b - nI (min a b) = nI (a + b - min a b) := by
    rw [nI_add, pk_sub (by omega)]
  refine nm_r e2 ?_
  unfold hg_w5 at h
  refine pk_eq (min a b) 0 (fun e => ?_) (fun e => ?_)
  · rw [hg_beqI.mpr e] at h
    exact h
  · rw [hg_beqF.mpr e] at h
    refine pk_eq (a + b - min a b) (min a b) (fun e3 => ?_) (fun e3 => ?_)
    · rw [hg_beqI.mpr e3] at h
      exact h
    · rw [hg_beqF.mpr e3] at h
      refine hx_og (by omega) (by omega) ?_
      cases e' : hg_og (a + b - min a b) (min a b)
      · rw [e'] at h
        exact br_t rfl h
      · rw [e'] at h
        exact br_f (by decide) h
theorem hx_m20 {post : Int32 → Prop} {a b c : Nat} (ha : a ≤ 31) (hb : b ≤ 31) (hc : c ≤ 31) (z : Bool) (h : post (hg_bI (Bool.xor (!(Nat.beq (a ^^^ b ^^^ c) 0)) z))) : wX_isMisereWon_20 post (nI a) (nI b) (nI c) (hg_bI z) := by
  have h3 := hg_x3 ha hb hc
  refine pk_eq (a ^^^ b ^^^ c) 0 (fun e => ?_) (fun e => ?_) (hg_xI a b c) rfl (by omega) (by omega)
  · rw [e] at h
    cases z
    · exact br_t rfl h
    · exact br_f (by decide) h
  · rw [hg_beqF.mpr e] at h
    cases z
    · exact br_f (by decide) h
    · exact br_t rfl h
theorem hx_w1 {post : Int32 → Prop} {a b c : Nat} (ha : a ≤ 31) (hb : b ≤ 31) (hc : c ≤ 31) (h : post (hg_bI (hg_w1 a b c))) : wpX_isMisereWon post (nI a) (nI b) (nI c) := by
  unfold hg_w1 at h
  refine pk_lt 1 a (fun h1 => ?_) (fun h1 => ?_)
  · rw [hg_bleF.mpr h1] at h
    exact hx_m20 ha hb hc false h
  · rw [hg_bleT.mpr h1] at h
    refine pk_lt 1 b (fun h2 => ?_) (fun h2 => ?_)
    · rw [hg_bleF.mpr h2] at h
      exact hx_m20 ha hb hc false h
    · rw [hg_bleT.mpr h2] at h
      refine pk_lt 1 c (fun h3 => ?_) (fun h3 => ?_)
      · rw [hg_bleF.mpr h3] at h
        exact hx_m20 ha hb hc false h
      · rw [hg_bleT.mpr h3] at h
        exact hx_m20 ha hb hc true h
theorem hx_w0 {post : Int32 → Prop} {a b c : Nat} (ha : a ≤ 31) (hb : b ≤ 31) (hc : c ≤ 31) (h : post (hg_bI (hg_w0 a b c))) : wX_isWon_106 post (nI a) (nI b) (nI c) := by
  have h3 := hg_x3 ha hb hc
  unfold hg_w0 at h
  refine pk_eq (a ^^^ b ^^^ c) 0 (fun e => ?_) (fun e => ?_) (hg_xI a b c) rfl (by omega) (by omega)
  · rw [hg_beqI.mpr e] at h
    exact h
  · rw [hg_beqF.mpr e] at h
    exact h
theorem hx_w7 {post : Int32 → Prop} {a b c : Nat} (h : post (hg_bI (hg_w7 a b c))) : (((nI a ^^^ nI b ^^^ nI c) &&& 3) = 0 → post 0) ∧ (¬ ((nI a ^^^ nI b ^^^ nI c) &&& 3) = 0 → post 1) := by
  have h3 : (a ^^^ b ^^^ c) &&& 3 < 4 := Nat.lt_of_le_of_lt Nat.and_le_right (by decide)
  unfold hg_w7 at h
  have e1 : (nI a ^^^ nI b ^^^ nI c) &&& 3 = nI ((a ^^^ b ^^^ c) &&& 3) := by
    rw [hg_xI]
    exact nx_and _ 3
  refine pk_eq ((a ^^^ b ^^^ c) &&& 3) 0 (fun e => ?_) (fun e => ?_) e1 rfl (by omega) (by omega)
  · rw [hg_beqI.mpr e] at h
    exact h
  · rw [hg_beqF.mpr e] at h
    exact h
theorem hx_won {post : Int32 → Prop} {g a b c : Nat} (hg : g < 8) (h6 : g ≠ 6) (ha : a ≤ 31) (hb : b ≤ 31) (hc : c ≤ 31) (h : post (hg_bI (hg_W g a b c))) : wpX_isWon post (nI g) (nI a) (nI b) (nI c) := by
  have : g = 0 ∨ g = 1 ∨ g = 2 ∨ g = 3 ∨ g = 4 ∨ g = 5 ∨ g = 7 := by omega
  rcases this with rfl | rfl | rfl | rfl | rfl | rfl | rfl
  · exact br_t (by decide) (hx_w0 ha hb hc h)
  · exact br_f (by decide) (br_f (by decide) (br_t rfl (hx_w1 ha hb hc ⟨hg_nar _, h⟩)))
  · refine br_f (by decide) (br_f (by decide) (br_f (by decide) (br_t rfl ?_)))
    have h' : post (hg_bI (!(Nat.beq a b && Nat.beq b c))) := h
    refine pk_eq a b (fun e => ?_) (fun e => ?_)
    · rw [hg_beqI.mpr e] at h'
      refine pk_eq b c (fun e2 => ?_) (fun e2 => ?_)
      · rw [hg_beqI.mpr e2] at h'
        exact h'
      · rw [hg_beqF.mpr e2] at h'
        exact h'
    · rw [hg_beqF.mpr e] at h'
      exact h'
  · refine br_f (by decide) (br_f (by decide) (br_f (by decide) (br_f (by decide) (br_t rfl ?_))))
    have h' : post (hg_bI (!(Nat.beq a c))) := h
    refine pk_eq a c (fun e => ?_) (fun e => ?_)
    · rw [hg_beqI.mpr e] at h'
      exact h'
    · rw [hg_beqF.mpr e] at h'
      exact h'
  · exact br_f (by decide) (br_f (by decide) (br_f (by decide) (br_f (by decide) (br_f (by decide) (br_t rfl (hx_w4 ha hb ⟨hg_nar _, h⟩))))))
  · exact br_f (by decide) (br_f (by decide) (br_f (by decide) (br_f (by decide) (br_f (by decide) (br_f (by decide) (br_t rfl (hx_w5 ha hb ⟨hg_nar _, h⟩)))))))
  · exact br_f (by decide) (br_f (by decide) (br_f (by decide) (br_f (by decide) (br_f (by decide) (br_f (by decide) (br_f (by decide) (br_f (by decide) (br_t rfl (hx_w7 h)))))))))
/-! game 6 -/
theorem hg_fst_le (p : Nat) (s : Nat × Nat) : (hg_fst p s).1 ≤ s.1 := by
  unfold hg_fst
  by_cases h : p ≤ s.1
  · rw [if_pos h]
    dsimp only
    omega
  · rw [if_neg h]
    omega
theorem hx_fs {post : Int32 → Prop} {x1 : Int32} {f p q k : Nat} (s : Nat × Nat) (hq : q ≤ p) (hp : p < 1000) (hs : s.1 < 1000) (hk : k < 9) (h : wX_isFibonacciWon_15 post x1 f (nI (hg_fst p s).1) (nI q) (nI (p - q)) (nI (hg_fst p s).2) (nI (k + 1))) : wX_isFibonacciWon_15 post x1 (f + 1) (nI s.1) (nI p) (nI q) (nI s.2) (nI k) := by
  have e9 : ¬ (9 : Int32) ≤ nI k := nI_ge (b := 9) hk (by decide)
  refine br_f e9 ?_
  unfold hg_fst at h
  refine pk_lt s.1 p (fun hl => ?_) (fun hl => ?_)
  · rw [if_neg (by omega)] at h
    exact nm_r (pk_sub hq) (nm_r (nI_1 k) h)
  · rw [if_pos hl] at h
    exact nm_r (pk_sub hl) (nm_r (pk_sub hq) (nm_r (nI_1 k) h))
theorem hx_fend {post : Int32 → Prop} {f l m : Nat} {x2 x3 x4 : Int32} (hl : l < 1000) (hm : m < 1000) (h : post (hg_bI (Nat.ble 1 l && Nat.ble l m))) : wX_isFibonacciWon_15 post (nI m) (f + 1) x2 x3 x4 (nI l) (nI 9) := by
  refine br_t (by decide) ?_
  refine pk_le l 0 (fun h1 => ?_) (fun h1 => ?_)
  · rw [hg_bleF.mpr (by omega)] at h
    exact h
  · rw [hg_bleT.mpr (by omega)] at h
    refine pk_lt m l (fun h2 => ?_) (fun h2 => ?_)
    · rw [hg_bleF.mpr h2] at h
      exact h
    · rw [hg_bleT.mpr h2] at h
      exact h
theorem hx_fib {post : Int32 → Prop} {n m : Nat} (hn : n ≤ 60) (hm : m < 1000) (h : post (hg_bI (hg_w6 n m))) : wpX_isFibonacciWon post (nI n) (nI m) := by
  have hl := hg_l1 hn
  have b1 := hg_fst_le 55 (n, 0)
  have b2 := hg_fst_le 34 (hg_fst 55 (n, 0))
  have b3 := hg_fst_le 21 (hg_fst 34 (hg_fst 55 (n, 0)))
  have b4 := hg_fst_le 13 (hg_fst 21 (hg_fst 34 (hg_fst 55 (n, 0))))
  have b5 := hg_fst_le 8 (hg_fst 13 (hg_fst 21 (hg_fst 34 (hg_fst 55 (n, 0)))))
  have b6 := hg_fst_le 5 (hg_fst 8 (hg_fst 13 (hg_fst 21 (hg_fst 34 (hg_fst 55 (n, 0))))))
  have b7 := hg_fst_le 3 (hg_fst 5 (hg_fst 8 (hg_fst 13 (hg_fst 21 (hg_fst 34 (hg_fst 55 (n, 0)))))))
  have b8 := hg_fst_le 2 (hg_fst 3 (hg_fst 5 (hg_fst 8 (hg_fst 13 (hg_fst 21 (hg_fst 34 (hg_fst 55 (n, 0))))))))
  dsimp only at b1
  refine ⟨10, ?_⟩
  refine hx_fs (p := 55) (q := 34) (k := 0) (n, 0) (by omega) (by omega) (by dsimp only; omega) (by omega) ?_
  refine hx_fs (p := 34) (q := 21) (k := 1) _ (by omega) (by omega) (by omega) (by omega) ?_
  refine hx_fs (p := 21) (q := 13) (k := 2) _ (by omega) (by omega) (by omega) (by omega) ?_
  refine hx_fs (p := 13) (q := 8) (k := 3) _ (by omega) (by omega) (by omega) (by omega) ?_
  refine hx_fs (p := 8) (q := 5) (k := 4) _ (by omega) (by omega) (by omega) (by omega) ?_
  refine hx_fs (p := 5) (q := 3) (k := 5) _ (by omega) (by omega) (by omega) (by omega) ?_
  refine hx_fs (p := 3) (q := 2) (k := 6) _ (by omega) (by omega) (by omega) (by omega) ?_
  refine hx_fs (p := 2) (q := 1) (k := 7) _ (by omega) (by omega) (by omega) (by omega) ?_
  refine hx_fs (p := 1) (q := 1) (k := 8) _ (by omega) (by omega) (by omega) (by omega) ?_
  exact hx_fend (l := hg_lst n) (by omega) hm h
/-! with the heaps -/
def hg_Hp (h : Nat → Int32) (x y z : Nat) : Prop := h 0 = nI x ∧ h 1 = nI y ∧ h 2 = nI z
def hg_pl (x y : Nat) : Nat := min (x + 16 * y) 60
theorem hx_pile {post : Int32 → Prop} {l : Int32} {h a : Nat → Int32} {x y z : Nat} (H : hg_Hp h x y z) (hx : x ≤ 15) (hy : y ≤ 15) (hp : post (nI (hg_pl x y))) : wpX_pile post (l, h, a) := by
  have e : h 0 + 16 * h 1 = nI (x + 16 * y) := by
    rw [H.1, H.2.1]
    show nI x + nI 16 * nI y = _
    rw [pk_mul, nI_add]
  refine nm_r e ?_
  exact hx_lesser (b := 60) (by omega) (by omega) hp
def hg_Wn (g x y z : Nat) : Bool := if g = 6 then hg_w6 (hg_pl x y) z else hg_W g x y z
theorem hx_now {post : Int32 → Prop} {l : Int32} {h a : Nat → Int32} {g x y z : Nat} (H : hg_Hp h x y z) (hg : g < 8) (hx : x ≤ 15) (hy : y ≤ 15) (hz : z ≤ 15) (hp : post (hg_bI (hg_Wn g x y z))) : wpX_isWonNow post (l, h, a) (nI g) := by
  refine pk_eq g 6 (fun e => ?_) (fun e => ?_)
  · subst e
    refine hx_pile H hx hy ?_
    rw [H.2.2]
    exact hx_fib (by unfold hg_pl; omega) (by omega) ⟨hg_nar _, hp⟩
  · rw [H.1, H.2.1, H.2.2]
    unfold hg_Wn at hp
    rw [if_neg e] at hp
    exact hx_won hg e (by omega) (by omega) (by omega) ⟨hg_nar _, hp⟩
/-- whether the move with number v leaves a won position -/
def hg_PA (g x y v : Nat) : Bool := if g = 6 then hg_w6 (hg_pl x y - v) (2 * v) else hg_W g (v % 32) (v % 1024 / 32) (v / 1024)
theorem hx_after {post : Int32 → Prop} {l : Int32} {h a : Nat → Int32} {g x y z v : Nat} (H : hg_Hp h x y z) (hg : g < 8) (hx : x ≤ 15) (hy : y ≤ 15) (hz : z ≤ 15) (hv : v < 32768) (hv6 : g = 6 → v ≤ hg_pl x y) (hp : post (hg_bI (hg_PA g x y v))) : wpX_isWonAfter post (l, h, a) (nI g) (nI v) := by
  refine pk_eq g 6 (fun e => ?_) (fun e => ?_)
  · subst e
    have hv' := hv6 rfl
    have hpl : hg_pl x y ≤ 60 := by unfold hg_pl; omega
    refine hx_pile H hx hy ?_
    refine nm_r (pk_sub hv') ?_
    have e2 : 2 * nI v = nI (2 * v) := pk_mul 2 v
    rw [e2]
    exact hx_fib (by omega) (by omega) ⟨hg_nar _, hp⟩
  · unfold hg_PA at hp
    rw [if_neg e] at hp
    have e0 : nI v - nI v / 32 * 32 = nI (v % 32) := pk_rem (d := 32) (by omega) (by omega) (by omega)
    have e1 : (nI v - nI v / 1024 * 1024) / 32 = nI (v % 1024 / 32) := by
      have := pk_rem (a := v) (d := 1024) (by omega) (by omega) (by omega)
      show (nI v - nI v / nI 1024 * nI 1024) / nI 32 = _
      rw [this, pk_div (by omega) (by omega) (by omega)]
    have e2 : nI v / 1024 = nI (v / 1024) := pk_div (d := 1024) (by omega) (by omega) (by omega)
    refine ⟨by decide, ?_⟩
    refine ⟨by decide, by decide, ?_⟩
    refine ⟨by decide, ?_⟩
    rw [e0, e1, e2]
    exact hx_won hg e (by omega) (by omega) (by omega) ⟨hg_nar _, hp⟩
