/-- the tables are right at q -/
def hg_Rt (g : Nat) (wn vl : Nat → Int32) (q : hg_T) : Prop := hg_Bd q.1 q.2.1 q.2.2 ∧ wn (hg_key q.1 q.2.1 q.2.2) = hg_bI (hg_Wq g q) ∧ vl (hg_key q.1 q.2.1 q.2.2) = nI (hg_Vq g q)
theorem hg_Rt_of {g : Nat} {D : Nat → Nat → Nat → Prop} {wn vl : Nat → Int32} {q : hg_T} (hG : hg_Good g D wn vl) (hb : hg_Bd q.1 q.2.1 q.2.2) (hD : D q.1 q.2.1 q.2.2) : hg_Rt g wn vl q := ⟨hb, hG _ _ _ hb hD⟩
theorem hg_Bd15 {a b c : Nat} (ha : a ≤ 15) (hb : b ≤ 15) (hc : c ≤ 15) : hg_Bd a b c := ⟨by omega, by omega, hc⟩
theorem hg_D_s1 {z0 X Y z y a b c : Nat} (h : hg_D z0 X Y z (y + 1) 0 a b c) : hg_D z0 X Y z y (X + 1) a b c := by
  unfold hg_D at h ⊢
  omega
theorem hg_D_s2 {z0 X Y z a b c : Nat} (h : hg_D z0 X Y (z + 1) 0 0 a b c) : hg_D z0 X Y z (Y + 1) 0 a b c := by
  unfold hg_D at h ⊢
  omega
theorem hg_D_s3 {z0 X Y z y x a b c : Nat} (h : hg_D z0 X Y z y (x + 1) a b c) : hg_D z0 X Y z y x a b c ∨ (a = x ∧ b = y ∧ c = z) := by
  unfold hg_D at h ⊢
  omega
theorem hg_D_0 {z0 X Y a b c : Nat} (h : hg_D z0 X Y z0 0 0 a b c) : False := by
  unfold hg_D at h
  omega
theorem hg_E_s1 {al tw Z c b x y z : Nat} (h : hg_D3 al tw Z c (b + 1) (b + 1) x y z) : hg_D3 al tw Z c b (al + 1) x y z := by
  unfold hg_D3 at h ⊢
  omega
theorem hg_E_s2 {al tw Z c x y z : Nat} (h : hg_D3 al tw Z (c + 1) (c + 1) (c + 1) x y z) : hg_D3 al tw Z c (tw + 1) (tw + 1) x y z := by
  unfold hg_D3 at h ⊢
  omega
theorem hg_E_s3 {al tw Z c b a x y z : Nat} (hcb : c ≤ b) (hba : b ≤ a) (h : hg_D3 al tw Z c b (a + 1) x y z) : hg_D3 al tw Z c b a x y z ∨ (x = a - b ∧ y = b - c ∧ z = c) := by
  unfold hg_D3 at h ⊢
  omega
theorem hg_E_0 {al tw Z x y z : Nat} (h : hg_D3 al tw Z 0 0 0 x y z) : False := by
  unfold hg_D3 at h
  omega
section
variable {fd : Int32} {h lm nb : Nat → Int32}
theorem hy_f170 {post : SY → Prop} {J143 J156 : Int32 → Int32 → Int32 → (Nat → Int32) → (Nat → Int32) → (Nat → Int32) → (Nat → Int32) → (Nat → Int32) → (Nat → Int32) → (Nat → Int32) → (Nat → Int32) → (Nat → Int32) → Prop} {g z0 X Y Z y z : Nat} (H : hg_Hp h X Y Z) (hX : X ≤ 15) (hY : Y ≤ 15) (hZ : Z ≤ 15) (hg : g < 8) (h6 : g ≠ 6) (h3 : g ≠ 3) (hz0 : (g = 4 ∨ g = 5) ∨ z0 = 0) (hz : z0 ≤ z) (hzZ : z ≤ Z) (hyY : y ≤ Y) (hJ : ∀ cn xs ys zs wn vl tk, hg_Good g (hg_D z0 X Y z (y + 1) 0) wn vl → J156 (nI (y + 1)) cn fd h xs ys zs wn vl tk lm nb) : ∀ (d x : Nat) (cn : Int32) (xs ys zs wn vl tk : Nat → Int32), x + d = X + 1 → hg_Good g (hg_D z0 X Y z y x) wn vl → wY_fill_170 post J143 J156 (nI g) (nI z) (nI y) (d + 1) (nI x) cn fd h xs ys zs wn vl tk lm nb
  | 0, x, cn, xs, ys, zs, wn, vl, tk, hd, hG => by
    have e : x = X + 1 := hd
    subst e
    have hlt : h 0 < nI (X + 1) := by rw [H.1]; exact nI_lt (by omega) (by omega)
    exact br_t hlt (nm_r (nI_1 _) (hJ _ _ _ _ _ _ _ (hg_Good_mono hG (fun a b c => hg_D_s1))))
  | d + 1, x, cn, xs, ys, zs, wn, vl, tk, hd, hG => by
    have hlt : ¬ h 0 < nI x := by rw [H.1]; exact nI_nlt (by omega) (by omega)
    refine br_f hlt ?_
    refine hy_judge hg h6 (hg_Bd15 (by omega) (by omega) (by omega)) (Or.inr ⟨by omega, by omega, by omega⟩) (fun q hq => ?_) (fun cn' xs' ys' zs' tk' => nm_r (nI_1 _) ?_)
    · have hl := hg_less h3 hq
      exact hg_Rt_of hG (hg_Bd15 (by omega) (by omega) (by omega)) (hg_D_in h3 hz0 hz (by omega) hyY hq)
    · exact hy_f170 H hX hY hZ hg h6 h3 hz0 hz hzZ hyY hJ d (x + 1) _ _ _ _ _ _ _ (by omega) (hg_Good_up hG (hg_Bd15 (by omega) (by omega) (by omega)) (fun a b c => hg_D_s3))
theorem hy_f156 {post : SY → Prop} {J143 : Int32 → Int32 → Int32 → (Nat → Int32) → (Nat → Int32) → (Nat → Int32) → (Nat → Int32) → (Nat → Int32) → (Nat → Int32) → (Nat → Int32) → (Nat → Int32) → (Nat → Int32) → Prop} {g z0 X Y Z z : Nat} (H : hg_Hp h X Y Z) (hX : X ≤ 15) (hY : Y ≤ 15) (hZ : Z ≤ 15) (hg : g < 8) (h6 : g ≠ 6) (h3 : g ≠ 3) (hz0 : (g = 4 ∨ g = 5) ∨ z0 = 0) (hz : z0 ≤ z) (hzZ : z ≤ Z) (hJ : ∀ cn xs ys zs wn vl tk, hg_Good g (hg_D z0 X Y (z + 1) 0 0) wn vl → J143 (nI (z + 1)) cn fd h xs ys zs wn vl tk lm nb) : ∀ (d y : Nat) (cn : Int32) (xs ys zs wn vl tk : Nat → Int32), y + d = Y + 1 → hg_Good g (hg_D z0 X Y z y 0) wn vl → wY_fill_156 post J143 (nI g) (nI z) (d + 1) (nI y) cn fd h xs ys zs wn vl tk lm nb
  | 0, y, cn, xs, ys, zs, wn, vl, tk, hd, hG => by
    have e : y = Y + 1 := hd
    subst e
    have hlt : h 1 < nI (Y + 1) := by rw [H.2.1]; exact nI_lt (by omega) (by omega)
    exact br_t hlt (nm_r (nI_1 _) (hJ _ _ _ _ _ _ _ (hg_Good_mono hG (fun a b c => hg_D_s2))))
  | d + 1, y, cn, xs, ys, zs, wn, vl, tk, hd, hG => by
    have hlt : ¬ h 1 < nI y := by rw [H.2.1]; exact nI_nlt (by omega) (by omega)
    refine br_f hlt ⟨X + 1 + 1, ?_⟩
    exact hy_f170 H hX hY hZ hg h6 h3 hz0 hz hzZ (by omega) (fun cn xs ys zs wn vl tk hG' => hy_f156 H hX hY hZ hg h6 h3 hz0 hz hzZ hJ d (y + 1) cn xs ys zs wn vl tk (by omega) hG') (X + 1) 0 cn xs ys zs wn vl tk (by omega) hG
theorem hy_f143 {post : SY → Prop} {g z0 X Y Z : Nat} (H : hg_Hp h X Y Z) (hX : X ≤ 15) (hY : Y ≤ 15) (hZ : Z ≤ 15) (hg : g < 8) (h6 : g ≠ 6) (h3 : g ≠ 3) (hz0 : (g = 4 ∨ g = 5) ∨ z0 = 0) (hp : ∀ cn xs ys zs wn vl tk, hg_Good g (hg_D z0 X Y (Z + 1) 0 0) wn vl → post (cn, fd, h, xs, ys, zs, wn, vl, tk, lm, nb)) : ∀ (d z : Nat) (cn : Int32) (xs ys zs wn vl tk : Nat → Int32), z + d = Z + 1 → z0 ≤ z → hg_Good g (hg_D z0 X Y z 0 0) wn vl → wY_fill_143 post (nI g) (d + 1) (nI z) cn fd h xs ys zs wn vl tk lm nb
  | 0, z, cn, xs, ys, zs, wn, vl, tk, hd, hz, hG => by
    have e : z = Z + 1 := hd
    subst e
    have hlt : h 2 < nI (Z + 1) := by rw [H.2.2]; exact nI_lt (by omega) (by omega)
    exact br_t hlt (hp _ _ _ _ _ _ _ hG)
  | d + 1, z, cn, xs, ys, zs, wn, vl, tk, hd, hz, hG => by
    have hlt : ¬ h 2 < nI z := by rw [H.2.2]; exact nI_nlt (by omega) (by omega)
    refine br_f hlt ⟨Y + 1 + 1, ?_⟩
    exact hy_f156 H hX hY hZ hg h6 h3 hz0 hz (by omega) (fun cn xs ys zs wn vl tk hG' => hy_f143 H hX hY hZ hg h6 h3 hz0 hp d (z + 1) cn xs ys zs wn vl tk (by omega) (by omega) hG') (Y + 1) 0 cn xs ys zs wn vl tk (by omega) hG
theorem hy_f68 {post : SY → Prop} {J43 J58 : Int32 → Int32 → Int32 → (Nat → Int32) → (Nat → Int32) → (Nat → Int32) → (Nat → Int32) → (Nat → Int32) → (Nat → Int32) → (Nat → Int32) → (Nat → Int32) → (Nat → Int32) → Prop} {al tw Z c b : Nat} (ha : al ≤ 45) (ht : tw ≤ 30) (hZ : Z ≤ 15) (hcZ : c ≤ Z) (hcb : c ≤ b) (hbt : b ≤ tw) (hta : tw ≤ al) (hJ : ∀ cn xs ys zs wn vl tk, hg_Good 3 (hg_D3 al tw Z c (b + 1) (b + 1)) wn vl → J58 (nI (b + 1)) cn fd h xs ys zs wn vl tk lm nb) : ∀ (d a : Nat) (cn : Int32) (xs ys zs wn vl tk : Nat → Int32), a + d = al + 1 → b ≤ a → hg_Good 3 (hg_D3 al tw Z c b a) wn vl → wY_fill_68 post J43 J58 3 (nI al) (nI tw) (nI c) (nI b) (d + 1) (nI a) cn fd h xs ys zs wn vl tk lm nb
  | 0, a, cn, xs, ys, zs, wn, vl, tk, hd, hba, hG => by
    have e : a = al + 1 := hd
    subst e
    exact br_t (nI_lt (by omega) (by omega)) (nm_r (nI_1 _) (hJ _ _ _ _ _ _ _ (hg_Good_mono hG (fun x y z => hg_E_s1))))
  | d + 1, a, cn, xs, ys, zs, wn, vl, tk, hd, hba, hG => by
    refine br_f (nI_nlt (by omega) (by omega)) ?_
    rw [pk_sub hba, pk_sub hcb]
    have hb : hg_Bd (a - b) (b - c) c := ⟨by omega, by omega, by omega⟩
    refine hy_judge (g := 3) (by decide) (by decide) hb (Or.inl rfl) (fun q hq => ?_) (fun cn' xs' ys' zs' tk' => nm_r (nI_1 _) ?_)
    · have hD := hg_D3_in (all := al) (two := tw) (h2 := Z) hcZ (by omega) (by omega) hq
      have e1 : b - c + c = b := by omega
      have e2 : a - b + (b - c) + c = a := by omega
      rw [e1, e2] at hD
      refine hg_Rt_of hG ?_ hD
      unfold hg_D3 at hD
      unfold hg_Bd
      omega
    · exact hy_f68 ha ht hZ hcZ hcb hbt hta hJ d (a + 1) _ _ _ _ _ _ _ (by omega) (by omega) (hg_Good_up hG hb (fun x y z => hg_E_s3 hcb hba))
theorem hy_f58 {post : SY → Prop} {J43 : Int32 → Int32 → Int32 → (Nat → Int32) → (Nat → Int32) → (Nat → Int32) → (Nat → Int32) → (Nat → Int32) → (Nat → Int32) → (Nat → Int32) → (Nat → Int32) → (Nat → Int32) → Prop} {al tw Z c : Nat} (ha : al ≤ 45) (ht : tw ≤ 30) (hZ : Z ≤ 15) (hcZ : c ≤ Z) (hZt : Z ≤ tw) (hta : tw ≤ al) (hJ : ∀ cn xs ys zs wn vl tk, hg_Good 3 (hg_D3 al tw Z (c + 1) (c + 1) (c + 1)) wn vl → J43 (nI (c + 1)) cn fd h xs ys zs wn vl tk lm nb) : ∀ (d b : Nat) (cn : Int32) (xs ys zs wn vl tk : Nat → Int32), b + d = tw + 1 → c ≤ b → hg_Good 3 (hg_D3 al tw Z c b b) wn vl → wY_fill_58 post J43 3 (nI al) (nI tw) (nI c) (d + 1) (nI b) cn fd h xs ys zs wn vl tk lm nb
  | 0, b, cn, xs, ys, zs, wn, vl, tk, hd, hcb, hG => by
    have e : b = tw + 1 := hd
    subst e
    exact br_t (nI_lt (by omega) (by omega)) (nm_r (nI_1 _) (hJ _ _ _ _ _ _ _ (hg_Good_mono hG (fun x y z => hg_E_s2))))
  | d + 1, b, cn, xs, ys, zs, wn, vl, tk, hd, hcb, hG => by
    refine br_f (nI_nlt (by omega) (by omega)) ⟨al + 1 - b + 1, ?_⟩
    exact hy_f68 ha ht hZ hcZ hcb (by omega) hta (fun cn xs ys zs wn vl tk hG' => hy_f58 ha ht hZ hcZ hZt hta hJ d (b + 1) cn xs ys zs wn vl tk (by omega) (by omega) hG') (al + 1 - b) b cn xs ys zs wn vl tk (by omega) (Nat.le_refl b) hG
theorem hy_f43 {post : SY → Prop} {al tw X Y Z : Nat} (H : hg_Hp h X Y Z) (ha : al ≤ 45) (ht : tw ≤ 30) (hZ : Z ≤ 15) (hZt : Z ≤ tw) (hta : tw ≤ al) (hp : ∀ cn xs ys zs wn vl tk, hg_Good 3 (hg_D3 al tw Z (Z + 1) (Z + 1) (Z + 1)) wn vl → post (cn, fd, h, xs, ys, zs, wn, vl, tk, lm, nb)) : ∀ (d c : Nat) (cn : Int32) (xs ys zs wn vl tk : Nat → Int32), c + d = Z + 1 → hg_Good 3 (hg_D3 al tw Z c c c) wn vl → wY_fill_43 post 3 (nI al) (nI tw) (d + 1) (nI c) cn fd h xs ys zs wn vl tk lm nb
  | 0, c, cn, xs, ys, zs, wn, vl, tk, hd, hG => by
    have e : c = Z + 1 := hd
    subst e
    have hlt : h 2 < nI (Z + 1) := by rw [H.2.2]; exact nI_lt (by omega) (by omega)
    exact br_t hlt (hp _ _ _ _ _ _ _ hG)
  | d + 1, c, cn, xs, ys, zs, wn, vl, tk, hd, hG => by
    have hlt : ¬ h 2 < nI c := by rw [H.2.2]; exact nI_nlt (by omega) (by omega)
    refine br_f hlt ⟨tw + 1 - c + 1, ?_⟩
    exact hy_f58 ha ht hZ (by omega) hZt hta (fun cn xs ys zs wn vl tk hG' => hy_f43 H ha ht hZ hZt hta hp d (c + 1) cn xs ys zs wn vl tk (by omega) hG') (tw + 1 - c) c cn xs ys zs wn vl tk (by omega) (Nat.le_refl c) hG
theorem hy_fill {post : SY → Prop} {cn : Int32} {xs ys zs wn vl tk : Nat → Int32} {g X Y Z : Nat} (H : hg_Hp h X Y Z) (hX : X ≤ 15) (hY : Y ≤ 15) (hZ : Z ≤ 15) (hg : g < 8) (h6 : g ≠ 6) (hp : ∀ cn xs ys zs wn vl tk, (∀ q, q = (X, Y, Z) ∨ q ∈ hg_LX g X Y Z → hg_Rt g wn vl q) → post (cn, fd, h, xs, ys, zs, wn, vl, tk, lm, nb)) : wpY_fill post (cn, fd, h, xs, ys, zs, wn, vl, tk, lm, nb) (nI g) := by
  have hn3 : g ≠ 3 → ∀ z0, (g = 4 ∨ g = 5) ∨ z0 = 0 → z0 ≤ Z → ∃ n143 : Nat, wY_fill_143 post (nI g) n143 (nI z0) cn fd h xs ys zs wn vl tk lm nb := by
    intro h3 z0 hz0 hz0Z
    refine ⟨Z + 1 - z0 + 1, hy_f143 (z0 := z0) H hX hY hZ hg h6 h3 hz0 (fun cn xs ys zs wn vl tk hG => hp _ _ _ _ _ _ _ (fun q hq => ?_)) (Z + 1 - z0) z0 cn xs ys zs wn vl tk (by omega) (Nat.le_refl _) (fun x y z _ hD => absurd hD hg_D_0)⟩
    rcases hq with rfl | hq
    · refine hg_Rt_of hG (hg_Bd15 hX hY hZ) ?_
      unfold hg_D
      dsimp only
      omega
    · have hl := hg_less h3 hq
      refine hg_Rt_of hG (hg_Bd15 (by omega) (by omega) (by omega)) ?_
      have hfl : z0 ≤ q.2.2 := by
        rcases hz0 with e | e
        · rw [hg_flat e hq]; exact hz0Z
        · omega
      unfold hg_D
      omega
  refine pk_eq g 3 (fun e => ?_) (fun e3 => pk_eq g 4 (fun e => ?_) (fun e4 => pk_eq g 5 (fun e => ?_) (fun e5 => ?_)))
  · subst e
    have e1 : h 0 + h 1 + h 2 = nI (X + Y + Z) := by rw [H.1, H.2.1, H.2.2, nI_add, nI_add]
    have e2 : h 1 + h 2 = nI (Y + Z) := by rw [H.2.1, H.2.2, nI_add]
    refine nm_r e1 (nm_r e2 ⟨Z + 1 + 1, ?_⟩)
    refine hy_f43 H (by omega) (by omega) hZ (by omega) (by omega) (fun cn xs ys zs wn vl tk hG => hp _ _ _ _ _ _ _ (fun q hq => ?_)) (Z + 1) 0 cn xs ys zs wn vl tk (by omega) (fun x y z _ hD => absurd hD hg_E_0)
    rcases hq with rfl | hq
    · refine hg_Rt_of hG (hg_Bd15 hX hY hZ) ?_
      unfold hg_D3
      dsimp only
      omega
    · have hb := hg_bd hX hY hZ hq
      refine hg_Rt_of hG ⟨by omega, hb.2.1, hb.2.2.1⟩ ?_
      unfold hg_D3
      rcases hg_mem3.mp hq with ⟨k, hk, rfl⟩ | ⟨k, hk, rfl⟩ | ⟨k, hk, rfl⟩ <;> (dsimp only; omega)
  · refine br_f (by decide) (nm_r H.2.2 (hn3 e3 Z (Or.inl (Or.inl e)) (Nat.le_refl _)))
  · refine br_f (by decide) (nm_r H.2.2 (hn3 e3 Z (Or.inl (Or.inr e)) (Nat.le_refl _)))
  · refine br_t rfl (hn3 e3 0 (Or.inr rfl) (Nat.zero_le _))
end
