theorem hg_vnar (b : Bool) : vp_nar .boolean (hg_bI b) = hg_bI b := by cases b <;> rfl
section
variable {fd : Int32} {h wn vl tk lm nb : Nat → Int32}
theorem hy_lost2 {post : Int32 → Prop} {cn A B C : Int32} {xs ys zs : Nat → Int32} {x y z : Nat} (ok : Prop) (a b c : Nat) (hW : ∀ q : hg_T, q ∈ hg_LX 2 x y z → hg_Bd q.1 q.2.1 q.2.2 ∧ wn (hg_key q.1 q.2.1 q.2.2) = hg_bI (hg_Wq 2 q)) (hok : ok → A = nI a ∧ B = nI b ∧ C = nI c ∧ ((a, b, c) : hg_T) ∈ hg_LX 2 x y z) (hno : ¬ ok → A < 0 ∨ B < 0 ∨ C < 0) (h1 : ok → a = b → b = c → post 1) (h0 : ¬ (ok ∧ a = b ∧ b = c) → post 0) : wpY_isLost post (cn, fd, h, xs, ys, zs, wn, vl, tk, lm, nb) A B C := by
  by_cases o : ok
  · obtain ⟨eA, eB, eC, hm⟩ := hok o
    subst eA eB eC
    obtain ⟨hb, hw⟩ := hW _ hm
    dsimp only at hb hw
    have hk := hg_key_lt hb
    have hb' := hb
    unfold hg_Bd at hb'
    refine br_f (nI_pos (by omega)) (br_f (nI_pos (by omega)) (br_f (nI_pos (by omega)) (hy_key rfl rfl rfl ⟨vp_in_nI hk (by decide), ?_⟩)))
    rw [nI_clamp (by omega), hw]
    cases e : hg_Wq 2 (a, b, c)
    · have e' := hg_w2F.mp e
      exact br_t rfl (h1 o e'.1 e'.2)
    · have e' := hg_w2T.mp e
      exact br_f (by decide) (h0 (fun z => e' ⟨z.2.1, z.2.2⟩))
  · have hp := h0 (fun z => o z.1)
    refine br_c (fun _ => hp) (fun n1 => br_c (fun _ => hp) (fun n2 => br_c (fun _ => hp) (fun n3 => ?_)))
    rcases hno o with n | n | n
    · exact absurd n n1
    · exact absurd n n2
    · exact absurd n n3
def hg_Tgt (x y z K M : Nat) : Prop := 1 ≤ K ∧ K ≤ 15 ∧ M ≤ 15 ∧ ((M = 0 ∧ ((K ≤ x ∧ x - K = y ∧ y = z) ∨ (K ≤ y ∧ y - K = z ∧ x = z) ∨ (K ≤ z ∧ z - K = x ∧ x = y))) ∨ (1 ≤ M ∧ ((K ≤ x ∧ M ≤ y ∧ x - K = y - M ∧ y - M = z) ∨ (K ≤ x ∧ M ≤ z ∧ x - K = y ∧ y = z - M) ∨ (K ≤ y ∧ M ≤ z ∧ x = y - K ∧ y - K = z - M))))
theorem hg_Tgt_ex {x y z : Nat} (hx : x ≤ 15) (hy : y ≤ 15) (hz : z ≤ 15) (h : ¬ (x = y ∧ y = z)) : ∃ K M, hg_Tgt x y z K M := by
  unfold hg_Tgt
  by_cases h1 : x ≤ y
  · by_cases h2 : x ≤ z
    · by_cases h3 : x = y
      · exact ⟨z - x, 0, by omega⟩
      · exact ⟨y - x, z - x, by omega⟩
    · by_cases h3 : y = z
      · omega
      · exact ⟨x - z, y - z, by omega⟩
  · by_cases h2 : y ≤ z
    · exact ⟨x - y, z - y, by omega⟩
    · exact ⟨x - z, y - z, by omega⟩
theorem hg_m1 {x y z k : Nat} (hk : 1 ≤ k) (h : k ≤ x) : ((x - k, y, z) : hg_T) ∈ hg_LX 2 x y z := hg_mem2.mpr (by dsimp only; omega)
theorem hg_m2 {x y z k : Nat} (hk : 1 ≤ k) (h : k ≤ y) : ((x, y - k, z) : hg_T) ∈ hg_LX 2 x y z := hg_mem2.mpr (by dsimp only; omega)
theorem hg_m3 {x y z k : Nat} (hk : 1 ≤ k) (h : k ≤ z) : ((x, y, z - k) : hg_T) ∈ hg_LX 2 x y z := hg_mem2.mpr (by dsimp only; omega)
theorem hg_m4 {x y z k m : Nat} (hk : 1 ≤ k) (hm : 1 ≤ m) (h : k ≤ x ∧ m ≤ y) : ((x - k, y - m, z) : hg_T) ∈ hg_LX 2 x y z := hg_mem2.mpr (by dsimp only; omega)
theorem hg_m5 {x y z k m : Nat} (hk : 1 ≤ k) (hm : 1 ≤ m) (h : k ≤ x ∧ m ≤ z) : ((x - k, y, z - m) : hg_T) ∈ hg_LX 2 x y z := hg_mem2.mpr (by dsimp only; omega)
theorem hg_m6 {x y z k m : Nat} (hk : 1 ≤ k) (hm : 1 ≤ m) (h : k ≤ y ∧ m ≤ z) : ((x, y - k, z - m) : hg_T) ∈ hg_LX 2 x y z := hg_mem2.mpr (by dsimp only; omega)
theorem hg_z1 {x y z k : Nat} (hk : 1 ≤ k) (o : k ≤ x) (e1 : x - k = y) : ¬ (x = y ∧ y = z) := by omega
theorem hg_z2 {x y z k : Nat} (hk : 1 ≤ k) (o : k ≤ y) (e1 : x = y - k) : ¬ (x = y ∧ y = z) := by omega
theorem hg_z3 {x y z k : Nat} (hk : 1 ≤ k) (o : k ≤ z) (e1 : y = z - k) : ¬ (x = y ∧ y = z) := by omega
theorem hg_z4 {x y z k m : Nat} (hk : 1 ≤ k) (o : k ≤ x ∧ m ≤ y) (e1 : x - k = y - m) (e2 : y - m = z) : ¬ (x = y ∧ y = z) := by omega
theorem hg_z6 {x y z k m : Nat} (hk : 1 ≤ k) (o : k ≤ y ∧ m ≤ z) (e1 : x = y - k) : ¬ (x = y ∧ y = z) := by omega
theorem hg_n2 {a b c d : Nat} (ha : a ≤ 15) (hb : b ≤ 15) (hc : c < 1000) (hd : d < 1000) (o : ¬ (c ≤ a ∧ d ≤ b)) : nI a - nI c < 0 ∨ nI b - nI d < 0 := by
  by_cases e : c ≤ a
  · exact Or.inr (pk_sneg (by omega) (by omega))
  · exact Or.inl (pk_sneg (by omega) (by omega))
theorem hg_ta {x y z k m K M : Nat} (hT : (x = y ∧ y = z) ∨ hg_Tgt x y z K M) (hi : (x = y ∧ y = z) ∨ k < K ∨ (k = K ∧ 1 ≤ M ∧ m ≤ M)) (n4 : ¬ ((k ≤ x ∧ m ≤ y) ∧ x - k = y - m ∧ y - m = z)) (n5 : ¬ ((k ≤ x ∧ m ≤ z) ∧ x - k = y ∧ y = z - m)) (n6 : ¬ ((k ≤ y ∧ m ≤ z) ∧ x = y - k ∧ y - k = z - m)) : (x = y ∧ y = z) ∨ k < K ∨ (k = K ∧ 1 ≤ M ∧ m + 1 ≤ M) := by
  rcases hT with hz | ⟨_, _, _, ht⟩
  · exact Or.inl hz
  · rcases hi with hz | hl | ⟨ek, hM, hm⟩
    · exact Or.inl hz
    · exact Or.inr (Or.inl hl)
    · by_cases em : m = M
      · subst ek em
        rcases ht with ⟨h0, _⟩ | ⟨_, ⟨a, b, c, d⟩ | ⟨a, b, c, d⟩ | ⟨a, b, c, d⟩⟩
        · omega
        · exact absurd ⟨⟨a, b⟩, c, d⟩ n4
        · exact absurd ⟨⟨a, b⟩, c, d⟩ n5
        · exact absurd ⟨⟨a, b⟩, c, d⟩ n6
      · exact Or.inr (Or.inr ⟨ek, hM, Nat.lt_of_le_of_ne hm em⟩)
theorem hg_tb {x y z k K M : Nat} (hT : (x = y ∧ y = z) ∨ hg_Tgt x y z K M) (hi : (x = y ∧ y = z) ∨ k ≤ K) (n1 : ¬ (k ≤ x ∧ x - k = y ∧ y = z)) (n2 : ¬ (k ≤ y ∧ x = y - k ∧ y - k = z)) (n3 : ¬ (k ≤ z ∧ x = y ∧ y = z - k)) : (x = y ∧ y = z) ∨ k < K ∨ (k = K ∧ 1 ≤ M ∧ 1 ≤ M) := by
  rcases hT with hz | ⟨_, _, _, ht⟩
  · exact Or.inl hz
  · rcases hi with hz | hl
    · exact Or.inl hz
    · by_cases ek : k = K
      · subst ek
        rcases ht with ⟨_, ⟨a, b, c⟩ | ⟨a, b, c⟩ | ⟨a, b, c⟩⟩ | ⟨hM, _⟩
        · exact absurd ⟨a, b, c⟩ n1
        · exact absurd ⟨a, by omega, b⟩ n2
        · exact absurd ⟨a, c, by omega⟩ n3
        · exact Or.inr (Or.inr ⟨rfl, hM, hM⟩)
      · exact Or.inr (Or.inl (Nat.lt_of_le_of_ne hl ek))
theorem hg_tc {x y z k m K M : Nat} (hT : (x = y ∧ y = z) ∨ hg_Tgt x y z K M) (hm : m = 16) (hi : (x = y ∧ y = z) ∨ k < K ∨ (k = K ∧ 1 ≤ M ∧ m ≤ M)) : (x = y ∧ y = z) ∨ k + 1 ≤ K := by
  rcases hT with hz | ⟨_, _, hM, _⟩
  · exact Or.inl hz
  · rcases hi with hz | hl | ⟨_, _, h3⟩
    · exact Or.inl hz
    · exact Or.inr hl
    · omega
theorem hg_td {x y z k K M : Nat} (hT : (x = y ∧ y = z) ∨ hg_Tgt x y z K M) (hk : k = 16) (hi : (x = y ∧ y = z) ∨ k ≤ K) : x = y ∧ y = z := by
  rcases hT with hz | ⟨_, hK, _, _⟩
  · exact hz
  · rcases hi with hz | hl
    · exact hz
    · omega
theorem hy_f54 {post J : Int32 → Prop} {cn : Int32} {xs ys zs : Nat → Int32} {x y z k K M : Nat} (hx : x ≤ 15) (hy : y ≤ 15) (hz : z ≤ 15) (hk : 1 ≤ k) (hk2 : k ≤ 15) (hW : ∀ q : hg_T, q ∈ hg_LX 2 x y z → hg_Bd q.1 q.2.1 q.2.2 ∧ wn (hg_key q.1 q.2.1 q.2.2) = hg_bI (hg_Wq 2 q)) (hT : (x = y ∧ y = z) ∨ hg_Tgt x y z K M) (h1 : ¬ (x = y ∧ y = z) → post 1) (hJ : (x = y ∧ y = z) ∨ k + 1 ≤ K → J (nI (k + 1))) : ∀ (d m : Nat), m + d = 16 → 1 ≤ m → ((x = y ∧ y = z) ∨ k < K ∨ (k = K ∧ 1 ≤ M ∧ m ≤ M)) → wY_findsLost_54 post J (nI x) (nI y) (nI z) (nI k) cn fd h xs ys zs wn vl tk lm nb (d + 1) (nI m)
  | 0, m, hm, hm1, hi => br_t (nI_lt (a := 15) (by omega) (by omega)) (nm_r (nI_1 _) (hJ (hg_tc hT hm hi)))
  | d + 1, m, hm, hm1, hi => by
    have hm2 : m < 1000 := by omega
    have hk3 : k < 1000 := by omega
    refine br_f (nI_nlt (a := 15) (by omega) (by omega)) ?_
    refine hy_lost2 (x := x) (y := y) (z := z) (k ≤ x ∧ m ≤ y) (x - k) (y - m) z hW (fun o => ⟨pk_sub o.1, pk_sub o.2, rfl, hg_m4 hk hm1 o⟩) (fun o => ?_) (fun o e1 e2 => br_f (by decide) (h1 (hg_z4 hk o e1 e2))) (fun n4 => br_t rfl ?_)
    · rcases hg_n2 hx hy hk3 hm2 o with n | n
      · exact Or.inl n
      · exact Or.inr (Or.inl n)
    refine hy_lost2 (x := x) (y := y) (z := z) (k ≤ x ∧ m ≤ z) (x - k) y (z - m) hW (fun o => ⟨pk_sub o.1, rfl, pk_sub o.2, hg_m5 hk hm1 o⟩) (fun o => ?_) (fun o e1 e2 => br_f (by decide) (h1 (hg_z1 hk o.1 e1))) (fun n5 => br_t rfl ?_)
    · rcases hg_n2 hx hz hk3 hm2 o with n | n
      · exact Or.inl n
      · exact Or.inr (Or.inr n)
    refine hy_lost2 (x := x) (y := y) (z := z) (k ≤ y ∧ m ≤ z) x (y - k) (z - m) hW (fun o => ⟨rfl, pk_sub o.1, pk_sub o.2, hg_m6 hk hm1 o⟩) (fun o => ?_) (fun o e1 e2 => br_f (by decide) (h1 (hg_z6 hk o e1))) (fun n6 => br_t rfl ?_)
    · rcases hg_n2 hy hz hk3 hm2 o with n | n
      · exact Or.inr (Or.inl n)
      · exact Or.inr (Or.inr n)
    refine nm_r (nI_1 _) ?_
    exact hy_f54 hx hy hz hk hk2 hW hT h1 hJ d (m + 1) (by omega) (by omega) (hg_ta hT hi n4 n5 n6)
theorem hy_f3 {post : Int32 → Prop} {cn : Int32} {xs ys zs : Nat → Int32} {x y z K M : Nat} (hx : x ≤ 15) (hy : y ≤ 15) (hz : z ≤ 15) (hW : ∀ q : hg_T, q ∈ hg_LX 2 x y z → hg_Bd q.1 q.2.1 q.2.2 ∧ wn (hg_key q.1 q.2.1 q.2.2) = hg_bI (hg_Wq 2 q)) (hT : (x = y ∧ y = z) ∨ hg_Tgt x y z K M) (h1 : ¬ (x = y ∧ y = z) → post 1) (h0 : (x = y ∧ y = z) → post 0) : ∀ (d k : Nat), k + d = 16 → 1 ≤ k → ((x = y ∧ y = z) ∨ k ≤ K) → wY_findsLost_3 post (nI x) (nI y) (nI z) cn fd h xs ys zs wn vl tk lm nb (d + 1) (nI k)
  | 0, k, hk, hk1, hi => br_t (nI_lt (a := 15) (by omega) (by omega)) (h0 (hg_td hT hk hi))
  | d + 1, k, hk, hk1, hi => by
    have hk3 : k < 2 ^ 30 := by omega
    refine br_f (nI_nlt (a := 15) (by omega) (by omega)) ?_
    refine hy_lost2 (x := x) (y := y) (z := z) (k ≤ x) (x - k) y z hW (fun o => ⟨pk_sub o, rfl, rfl, hg_m1 hk1 o⟩) (fun o => Or.inl (pk_sneg hk3 (Nat.lt_of_not_le o))) (fun o e1 e2 => br_f (by decide) (h1 (hg_z1 hk1 o e1))) (fun n1 => br_t rfl ?_)
    refine hy_lost2 (x := x) (y := y) (z := z) (k ≤ y) x (y - k) z hW (fun o => ⟨rfl, pk_sub o, rfl, hg_m2 hk1 o⟩) (fun o => Or.inr (Or.inl (pk_sneg hk3 (Nat.lt_of_not_le o)))) (fun o e1 e2 => br_f (by decide) (h1 (hg_z2 hk1 o e1))) (fun n2 => br_t rfl ?_)
    refine hy_lost2 (x := x) (y := y) (z := z) (k ≤ z) x y (z - k) hW (fun o => ⟨rfl, rfl, pk_sub o, hg_m3 hk1 o⟩) (fun o => Or.inr (Or.inr (pk_sneg hk3 (Nat.lt_of_not_le o)))) (fun o e1 e2 => br_f (by decide) (h1 (hg_z3 hk1 o e2))) (fun n3 => br_t rfl ?_)
    have hk15 : k ≤ 15 := by omega
    have hkd : k + 1 + d = 16 := by omega
    exact ⟨16, hy_f54 hx hy hz hk1 hk15 hW hT h1 (fun hi2 => hy_f3 hx hy hz hW hT h1 h0 d (k + 1) hkd (Nat.succ_le_succ (Nat.zero_le k)) hi2) 15 1 rfl (Nat.le_refl 1) (hg_tb hT hi n1 n2 n3)⟩
theorem hy_finds {post : Int32 → Prop} {cn : Int32} {xs ys zs : Nat → Int32} {x y z : Nat} (hx : x ≤ 15) (hy : y ≤ 15) (hz : z ≤ 15) (hW : ∀ q : hg_T, q ∈ hg_LX 2 x y z → hg_Bd q.1 q.2.1 q.2.2 ∧ wn (hg_key q.1 q.2.1 q.2.2) = hg_bI (hg_Wq 2 q)) (hp : post (hg_bI (hg_W 2 x y z))) : wpY_findsLost post (cn, fd, h, xs, ys, zs, wn, vl, tk, lm, nb) (nI x) (nI y) (nI z) := by
  have hp' : post (hg_bI (hg_w2 x y z)) := hp
  have h1 : ¬ (x = y ∧ y = z) → post 1 := by
    intro n
    rw [hg_w2T.mpr n] at hp'
    exact hp'
  have h0 : (x = y ∧ y = z) → post 0 := by
    intro n
    rw [hg_w2F.mpr n] at hp'
    exact hp'
  by_cases e : x = y ∧ y = z
  · exact ⟨16, hy_f3 (K := 0) (M := 0) hx hy hz hW (Or.inl e) h1 h0 15 1 (by omega) (by omega) (Or.inl e)⟩
  · obtain ⟨K, M, hT⟩ := hg_Tgt_ex hx hy hz e
    exact ⟨16, hy_f3 hx hy hz hW (Or.inr hT) h1 h0 15 1 (by omega) (by omega) (Or.inr hT.1)⟩
theorem hy_j165 {post : SY → Prop} {cn : Int32} {xs ys zs : Nat → Int32} {g x y z m : Nat} (hg : g < 8) (hb : hg_Bd x y z) (w : Bool) (hm : m ≤ 16) (ht : ∀ v, v < m → tk v ≠ 0) (ht0 : tk m = 0) (hv : g = 0 ∨ g = 7 → m = hg_V g x y z) (hp : post (cn, fd, h, xs, ys, zs, upd wn (hg_key x y z) (hg_bI w), upd vl (hg_key x y z) (nI (hg_V g x y z)), tk, lm, nb)) : ∀ (d v : Nat), v + d = m → wY_judge_165 post (nI g) (nI (hg_key x y z)) (hg_bI w) cn fd h xs ys zs wn vl tk lm nb (d + 1) (nI v)
  | 0, v, hd => by
    have e : v = m := by omega
    subst e
    have hk := hg_key_lt hb
    have hin : vp_in (nI (hg_key x y z)) 22816 := vp_in_nI hk (by decide)
    refine ⟨vp_in_nI (by omega) (by decide), br_t (by rw [nI_clamp (by omega)]; exact ht0) ⟨hin, ?_⟩⟩
    refine nm_r (e' := upd wn (hg_key x y z) (hg_bI w)) (by rw [nI_clamp (by omega), hg_vnar]) ?_
    refine pk_eq g 0 (fun e => ⟨hin, ?_⟩) (fun e0 => pk_eq g 7 (fun e => ⟨hin, ?_⟩) (fun e7 => ⟨hin, ?_⟩))
    · refine nm_r (e' := upd vl (hg_key x y z) (nI (hg_V g x y z))) (by rw [nI_clamp (by omega), hv (Or.inl e)]) hp
    · refine nm_r (e' := upd vl (hg_key x y z) (nI (hg_V g x y z))) (by rw [nI_clamp (by omega), hv (Or.inr e)]) hp
    · have ev : hg_V g x y z = 0 := by
        unfold hg_V
        rw [if_neg e0, if_neg e7]
      refine nm_r (e' := upd vl (hg_key x y z) (nI (hg_V g x y z))) (by rw [nI_clamp (by omega), ev]; rfl) hp
  | d + 1, v, hd => by
    refine ⟨vp_in_nI (by omega) (by decide), br_f (by rw [nI_clamp (by omega)]; exact ht v (by omega)) (nm_r (nI_1 _) ?_)⟩
    exact hy_j165 hg hb w hm ht ht0 hv hp d (v + 1) (by omega)
end
section
variable {fd : Int32} {h wn vl lm nb : Nat → Int32}
theorem hy_j94 {post : SY → Prop} {xs ys zs : Nat → Int32} {g own : Nat} (L : List hg_T) (hl : L.length ≤ 800) (hH : hg_H3 xs ys zs L) (hV : ∀ q : hg_T, q ∈ L → hg_Bd q.1 q.2.1 q.2.2 ∧ wn (hg_key q.1 q.2.1 q.2.2) = hg_bI (hg_Wq g q) ∧ vl (hg_key q.1 q.2.1 q.2.2) = nI (hg_Vq g q) ∧ hg_Vq g q < 64) (w0 : Bool) (hC : ∀ tk', (∀ v, v < 64 → (tk' v ≠ 0 ↔ ∃ q, q ∈ L ∧ hg_Vq g q = v)) → ∃ n165 : Nat, wY_judge_165 post (nI g) (nI own) (hg_bI (w0 || L.any (fun q => !hg_Wq g q))) (nI L.length) fd h xs ys zs wn vl tk' lm nb n165 0) : ∀ (R P : List hg_T) (tk : Nat → Int32), P ++ R = L → (∀ v, v < 64 → (tk v ≠ 0 ↔ ∃ q, q ∈ P ∧ hg_Vq g q = v)) → wY_judge_94 post (nI g) (nI own) (nI L.length) fd (R.length + 1) (hg_bI (w0 || P.any (fun q => !hg_Wq g q))) (nI P.length) h xs ys zs wn vl tk lm nb
  | [], P, tk, e, ht => by
    rw [List.append_nil] at e
    subst e
    exact br_t (nI_le (Nat.le_refl _) (by omega)) (hC tk ht)
  | q :: R, P, tk, e, ht => by
    have hlen : P.length + (R.length + 1) = L.length := by
      rw [← e, List.length_append]
      rfl
    have hq : L[P.length]? = some q := by
      rw [← e, List.getElem?_append_right (Nat.le_refl _), Nat.sub_self]
      rfl
    obtain ⟨ex, ey, ez⟩ := hH _ _ hq
    obtain ⟨hb, hw, hv, hv64⟩ := hV q (List.mem_of_getElem? hq)
    have hk := hg_key_lt hb
    have hin : vp_in (nI P.length) 800 := vp_in_nI (by omega) (by decide)
    have hin2 : vp_in (nI (hg_key q.1 q.2.1 q.2.2)) 22816 := vp_in_nI hk (by decide)
    have e' : P ++ [q] ++ R = L := by rw [List.append_assoc]; exact e
    have ht' : ∀ v, v < 64 → (upd tk (hg_Vq g q) 1 v ≠ 0 ↔ ∃ p, p ∈ P ++ [q] ∧ hg_Vq g p = v) := by
      intro v hv
      by_cases ev : v = hg_Vq g q
      · subst ev
        rw [hg_upd_eq]
        exact ⟨fun _ => ⟨q, List.mem_append.mpr (Or.inr (List.mem_singleton.mpr rfl)), rfl⟩, fun _ => by decide⟩
      · rw [hg_upd_ne ev, ht v hv]
        constructor
        · rintro ⟨p, hp, e⟩
          exact ⟨p, List.mem_append.mpr (Or.inl hp), e⟩
        · rintro ⟨p, hp, e⟩
          rcases List.mem_append.mp hp with hp | hp
          · exact ⟨p, hp, e⟩
          · rw [List.mem_singleton] at hp
            rw [hp] at e
            exact absurd e.symm ev
    have ih := hy_j94 (post := post) (own := own) L hl hH hV w0 hC R (P ++ [q]) (upd tk (hg_Vq g q) 1) e' ht'
    rw [List.any_append, List.length_append] at ih
    have ea : [q].any (fun q => !hg_Wq g q) = !hg_Wq g q := by
      show ((!hg_Wq g q) || false) = _
      rw [Bool.or_false]
    rw [ea, ← Bool.or_assoc] at ih
    refine br_f (nI_ge (by omega) (by omega)) ⟨hin, hin, hin, ?_⟩
    rw [nI_clamp (by omega), ex, ey, ez]
    refine hy_key rfl rfl rfl ⟨hin2, ?_⟩
    have etk : upd tk (vl (nI (hg_key q.1 q.2.1 q.2.2)).toNatClampNeg).toNatClampNeg (vp_nar .boolean 1) = upd tk (hg_Vq g q) 1 := by
      rw [nI_clamp (n := hg_key q.1 q.2.1 q.2.2) (by omega), hv, nI_clamp (by omega)]
      rfl
    have hin3 : vp_in (vl (nI (hg_key q.1 q.2.1 q.2.2)).toNatClampNeg) 64 := by
      rw [nI_clamp (by omega), hv]
      exact vp_in_nI hv64 (by decide)
    have ew : wn (nI (hg_key q.1 q.2.1 q.2.2)).toNatClampNeg = hg_bI (hg_Wq g q) := by
      rw [nI_clamp (by omega)]
      exact hw
    rw [ew]
    cases eW : hg_Wq g q
    · rw [eW] at ih
      refine br_t rfl ⟨hin2, hin3, nm_r etk (nm_r (nI_1 _) ?_)⟩
      have e1 : hg_bI ((w0 || P.any (fun q => !hg_Wq g q)) || !false) = 1 := by
        rw [Bool.not_false, Bool.or_true]
        rfl
      rw [e1] at ih
      exact ih
    · rw [eW] at ih
      refine br_f (by decide) ⟨hin2, hin3, nm_r etk (nm_r (nI_1 _) ?_)⟩
      rw [Bool.not_true, Bool.or_false] at ih
      exact ih
theorem hy_j70 {post : SY → Prop} {x1 x5 x6 cn : Int32} {xs ys zs : Nat → Int32} (hC : ∀ tk', (∀ v, v < 64 → tk' v = 0) → ∃ n94 : Nat, wY_judge_94 post x1 x5 cn fd n94 x6 0 h xs ys zs wn vl tk' lm nb) : ∀ (d k : Nat) (tk : Nat → Int32), k + d = 64 → (∀ v, v < k → tk v = 0) → wY_judge_70 post x1 x5 x6 cn fd (d + 1) (nI k) h xs ys zs wn vl tk lm nb
  | 0, k, tk, hk, ht => by
    have e : k = 64 := by omega
    subst e
    exact br_t (by decide) (hC tk ht)
  | d + 1, k, tk, hk, ht => by
    refine br_f (nI_ge (b := 64) (by omega) (by decide)) ⟨vp_in_nI (by omega) (by decide), ?_⟩
    refine nm_r (e' := upd tk k 0) (by rw [nI_clamp (by omega)]; rfl) (nm_r (nI_1 _) ?_)
    refine hy_j70 hC d (k + 1) (upd tk k 0) (by omega) (fun v hv => ?_)
    by_cases e : v = k
    · rw [e, hg_upd_eq]
    · rw [hg_upd_ne e]
      exact ht v (by omega)
theorem hg_anyW {g x y z : Nat} (hK : hg_K g x y z) (hm : ∀ q, q ∈ hg_LY g x y z ↔ q ∈ hg_LX g x y z) (w0 : Bool) (hw : w0 = true ↔ (g = 1 ∧ hg_LX g x y z = [])) : (w0 || (hg_LY g x y z).any (fun q => !hg_Wq g q)) = hg_W g x y z := by
  unfold hg_K at hK
  rw [Bool.eq_iff_iff, Bool.or_eq_true, hK, hw, List.any_eq_true]
  constructor
  · rintro (h | ⟨q, hq, e⟩)
    · exact Or.inr h
    · rw [Bool.not_eq_true'] at e
      exact Or.inl ⟨q, (hm q).mp hq, e⟩
  · rintro (⟨q, hq, e⟩ | h)
    · exact Or.inr ⟨q, (hm q).mpr hq, by rw [Bool.not_eq_true']; exact e⟩
    · exact Or.inl h
theorem hg_LY_len {g x y z : Nat} (hx : x ≤ 45) (hy : y ≤ 30) (hz : z ≤ 15) : (hg_LY g x y z).length ≤ 800 := by
  by_cases h3 : g = 3
  · subst h3
    show (hg_run z (fun k => (x, y + (k + 1), z - (k + 1))) ++ hg_run y (fun k => (x + (k + 1), y - (k + 1), z)) ++ hg_run x (fun k => (x - (k + 1), y, z))).length ≤ 800
    rw [List.length_append, List.length_append, hg_run_len, hg_run_len, hg_run_len]
    omega
  · by_cases h4 : g = 4
    · subst h4
      show (hg_run x (fun k => (x - (k + 1), y, z)) ++ hg_run y (fun k => (x, y - (k + 1), z)) ++ hg_run (min x y) (fun k => (x - (k + 1), y - (k + 1), z))).length ≤ 800
      rw [List.length_append, List.length_append, hg_run_len, hg_run_len, hg_run_len]
      omega
    · by_cases h5 : g = 5
      · subst h5
        have d1 : x / y ≤ x := Nat.div_le_self x y
        have d2 : y / x ≤ y := Nat.div_le_self y x
        show (if x = 0 ∨ y = 0 then [] else hg_run (x / y) (fun k => (x - (k + 1) * y, y, z)) ++ hg_run (y / x) (fun k => (x, y - (k + 1) * x, z))).length ≤ 800
        by_cases h0 : x = 0 ∨ y = 0
        · rw [if_pos h0]
          exact Nat.zero_le _
        · rw [if_neg h0, List.length_append, hg_run_len, hg_run_len]
          omega
      · have e : hg_LY g x y z = (List.range (if g = 7 then 3 else 15)).flatMap (hg_stp g x y z) := by
          unfold hg_LY
          rw [if_neg h3, if_neg h4, if_neg h5]
        rw [e]
        have h1 := hg_flen_le (n := if g = 7 then 3 else 15) (hg_stp_len g x y z)
        have h2 : (if g = 7 then 3 else 15) ≤ 15 := by
          by_cases e : g = 7
          · rw [if_pos e]; decide
          · rw [if_neg e]; decide
        omega
theorem hy_judge {post : SY → Prop} {cn : Int32} {xs ys zs tk : Nat → Int32} {g x y z : Nat} (hg : g < 8) (h6 : g ≠ 6) (hb : hg_Bd x y z) (hr : g = 3 ∨ (x ≤ 15 ∧ y ≤ 15 ∧ z ≤ 15)) (hV : ∀ q : hg_T, q ∈ hg_LX g x y z → hg_Bd q.1 q.2.1 q.2.2 ∧ wn (hg_key q.1 q.2.1 q.2.2) = hg_bI (hg_Wq g q) ∧ vl (hg_key q.1 q.2.1 q.2.2) = nI (hg_Vq g q)) (hp : ∀ cn' xs' ys' zs' tk', post (cn', fd, h, xs', ys', zs', upd wn (hg_key x y z) (hg_bI (hg_W g x y z)), upd vl (hg_key x y z) (nI (hg_V g x y z)), tk', lm, nb)) : wpY_judge post (cn, fd, h, xs, ys, zs, wn, vl, tk, lm, nb) (nI g) (nI x) (nI y) (nI z) := by
  have hk := hg_key_lt hb
  have hin : vp_in (nI (hg_key x y z)) 22816 := vp_in_nI hk (by decide)
  have hb' := hb
  unfold hg_Bd at hb'
  unfold wpY_judge
  dsimp only
  refine hy_key rfl rfl rfl ?_
  refine pk_eq g 2 (fun e => ⟨hin, ?_⟩) (fun e2 => ?_)
  · subst e
    have hr' : x ≤ 15 ∧ y ≤ 15 ∧ z ≤ 15 := by omega
    refine nm_r (e' := upd vl (hg_key x y z) (nI (hg_V 2 x y z))) (by rw [nI_clamp (by omega)]; rfl) ?_
    refine hy_finds hr'.1 hr'.2.1 hr'.2.2 (fun q hq => ⟨(hV q hq).1, (hV q hq).2.1⟩) ⟨hin, ?_⟩
    refine nm_r (e' := upd wn (hg_key x y z) (hg_bI (hg_W 2 x y z))) (by rw [nI_clamp (by omega), hg_vnar]) ?_
    exact hp _ _ _ _ _
  · refine hy_list hg hb'.1 hb'.2.1 hb'.2.2 (fun xs' ys' zs' H' => ?_)
    have hperm := hg_permJ g x y z e2
    have hm : ∀ q, q ∈ hg_LY g x y z ↔ q ∈ hg_LX g x y z := fun q => hperm.mem_iff
    have hK := hg_Kall hg h6 hr
    have hl := hg_LY_len (g := g) hb'.1 hb'.2.1 hb'.2.2
    obtain ⟨m, hm16, hm1, hm2, hm3⟩ := hg_mexall hg hr
    have hV' : ∀ q : hg_T, q ∈ hg_LY g x y z → hg_Bd q.1 q.2.1 q.2.2 ∧ wn (hg_key q.1 q.2.1 q.2.2) = hg_bI (hg_Wq g q) ∧ vl (hg_key q.1 q.2.1 q.2.2) = nI (hg_Vq g q) ∧ hg_Vq g q < 64 := by
      intro q hq
      have hq' := (hm q).mp hq
      obtain ⟨a1, a2, a3⟩ := hV q hq'
      refine ⟨a1, a2, a3, ?_⟩
      by_cases e3 : g = 3
      · subst e3
        show 0 < 64
        decide
      · have hless := hg_less e3 hq'
        have hr' : x ≤ 15 ∧ y ≤ 15 ∧ z ≤ 15 := by omega
        have := hg_V16 (g := g) (x := q.1) (y := q.2.1) (z := q.2.2) (by omega) (by omega) (by omega)
        unfold hg_Vq
        omega
    have hj : ∀ w0 : Bool, (w0 = true ↔ (g = 1 ∧ hg_LX g x y z = [])) → ∃ n70 : Nat, wY_judge_70 post (nI g) (nI (hg_key x y z)) (hg_bI w0) (nI (hg_LY g x y z).length) fd n70 0 h xs' ys' zs' wn vl tk lm nb := by
      intro w0 hw
      refine ⟨65, hy_j70 (fun tk1 ht1 => ?_) 64 0 tk (by omega) (fun v hv => absurd hv (by omega))⟩
      refine ⟨(hg_LY g x y z).length + 1, ?_⟩
      have h94 := hy_j94 (post := post) (fd := fd) (h := h) (lm := lm) (nb := nb) (own := hg_key x y z) (hg_LY g x y z) hl H' hV' w0 (fun tk2 ht2 => by
        rw [hg_anyW hK hm w0 hw]
        refine ⟨m + 1, hy_j165 hg hb (hg_W g x y z) hm16 (fun v hv => ?_) ?_ hm3 (hp _ _ _ _ _) m 0 (by omega)⟩
        · obtain ⟨q, hq, e⟩ := hm1 v hv
          exact (ht2 v (by omega)).mpr ⟨q, (hm q).mpr hq, e⟩
        · by_cases e : tk2 m = 0
          · exact e
          · obtain ⟨q, hq, e'⟩ := (ht2 m (by omega)).mp e
            exact absurd e' (hm2 q ((hm q).mp hq))) (hg_LY g x y z) [] tk1 rfl (fun v hv => ⟨fun n => absurd (ht1 v hv) n, fun ⟨q, hq, _⟩ => absurd hq List.not_mem_nil⟩)
      rw [show ([] : List hg_T).any (fun q => !hg_Wq g q) = false from rfl, Bool.or_false] at h94
      exact h94
    have hnil : hg_LY g x y z = [] ↔ hg_LX g x y z = [] := by
      constructor
      · intro e
        rw [e] at hperm
        exact hperm.nil_eq.symm
      · intro e
        rw [e] at hperm
        exact hperm.eq_nil
    refine pk_eq (hg_LY g x y z).length 0 (fun e => pk_eq g 1 (fun e1 => ?_) (fun e1 => ?_)) (fun e => ?_)
    · refine hj true ⟨fun _ => ⟨e1, hnil.mp (List.length_eq_zero_iff.mp e)⟩, fun _ => rfl⟩
    · refine hj false ⟨fun n => Bool.noConfusion n, fun n => absurd n.1 e1⟩
    · refine hj false ⟨fun n => Bool.noConfusion n, fun n => ?_⟩
      rw [hnil.mpr n.2] at e
      exact absurd rfl e
end
