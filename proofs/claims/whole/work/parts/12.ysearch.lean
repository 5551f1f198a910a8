/-- the table of game 6 is right below (n, l) -/
def hg_GL (lm : Nat → Int32) (n l : Nat) : Prop := ∀ a b, a ≤ 60 → b ≤ 60 → (a < n ∨ (a = n ∧ b < l)) → lm (61 * a + b) = hg_bI (hg_w6 a b)
theorem hg_GL_s {lm : Nat → Int32} {n : Nat} (h : hg_GL lm n 61) : hg_GL lm (n + 1) 0 := by
  intro a b ha hb hab
  exact h a b ha hb (by omega)
theorem hg_GL_up {lm : Nat → Int32} {n l : Nat} (h : hg_GL lm n l) (hl : l ≤ 60) : hg_GL (upd lm (61 * n + l) (hg_bI (hg_w6 n l))) n (l + 1) := by
  intro a b ha hb hab
  by_cases e : 61 * a + b = 61 * n + l
  · have e1 : a = n := by omega
    have e2 : b = l := by omega
    subst e1 e2
    rw [hg_upd_eq]
  · rw [hg_upd_ne e]
    exact h a b ha hb (by omega)
theorem hg_w6_next {n j : Nat} (hn : n ≤ 60) (hj : j < n) (h0 : hg_w6 n j = false) : hg_w6 n (j + 1) = !hg_w6 (n - (j + 1)) (min 60 (2 * (j + 1))) := by
  have hn0 : ¬ (0 < hg_lst n ∧ hg_lst n ≤ j) := by
    intro z
    rw [hg_w6T.mpr z] at h0
    exact Bool.noConfusion h0
  have hpos := hg_l2 hn (by omega)
  by_cases e : hg_lst n = j + 1
  · rw [hg_l4 hn hj e.symm]
    exact hg_w6T.mpr ⟨hpos, by omega⟩
  · rw [hg_l3 hn hj (by omega)]
    cases e2 : hg_w6 n (j + 1)
    · rfl
    · have := hg_w6T.mp e2
      omega
theorem hg_w6_mono {n j : Nat} (h : hg_w6 n j = true) : hg_w6 n (j + 1) = true := by
  have := hg_w6T.mp h
  exact hg_w6T.mpr ⟨this.1, by omega⟩
theorem hg_w6_min {n l : Nat} (hn : n ≤ 60) : hg_w6 n (min n l) = hg_w6 n l := by
  have h1 := hg_l1 hn
  rw [Bool.eq_iff_iff, hg_w6T, hg_w6T]
  omega
theorem hg_w6_0 (n : Nat) : hg_w6 n 0 = false := by
  cases e : hg_w6 n 0
  · rfl
  · have := hg_w6T.mp e
    omega
theorem hg_ix6 {n k r : Nat} (hk : k ≤ n) : 61 * (nI n - nI k) + nI r = nI (61 * (n - k) + r) := by
  rw [pk_sub hk]
  show nI 61 * nI (n - k) + nI r = _
  rw [pk_mul, nI_add]
theorem hg_ix6' (n l : Nat) : 61 * nI n + nI l = nI (61 * n + l) := by
  show nI 61 * nI n + nI l = _
  rw [pk_mul, nI_add]
section
variable {h : Nat → Int32}
theorem hy_atMost {post : Int32 → Prop} {cn fd : Int32} {xs ys zs wn vl tk lm nb : Nat → Int32} {k : Nat} (hk : k < 1000) (hp : post (nI (min 60 (2 * k)))) : wpY_atMost post (cn, fd, h, xs, ys, zs, wn, vl, tk, lm, nb) (2 * nI k) := by
  have e : 2 * nI k = nI (2 * k) := pk_mul 2 k
  refine pk_le (2 * k) 60 (fun h1 => ?_) (fun h1 => ?_) e
  · have e2 : min 60 (2 * k) = 2 * k := by omega
    rw [e2] at hp
    rw [e]; exact hp
  · have e2 : min 60 (2 * k) = 60 := by omega
    rw [e2] at hp
    exact hp
theorem hy_L21 {post : SY → Prop} {J2 J10 : Int32 → (Nat → Int32) → (Nat → Int32) → (Nat → Int32) → (Nat → Int32) → (Nat → Int32) → (Nat → Int32) → (Nat → Int32) → (Nat → Int32) → (Nat → Int32) → Prop} {cn fd : Int32} {xs ys zs wn vl tk lm nb : Nat → Int32} {n l : Nat} (hn : n ≤ 60) (hl : l ≤ 60) (hG : hg_GL lm n l) (hJ : ∀ lm', hg_GL lm' n (l + 1) → J10 (nI (l + 1)) h xs ys zs wn vl tk lm' nb) : ∀ (d j : Nat), j + d = min n l → wY_fillLimited_21 post J2 J10 (nI n) (nI l) cn fd h xs ys zs wn vl tk lm nb (d + 1) (hg_bI (hg_w6 n j)) (nI (j + 1))
  | 0, j, hd => by
    have e : j = min n l := hd
    subst e
    have h73 : wY_fillLimited_73 post J2 J10 (nI n) (nI l) (hg_bI (hg_w6 n (min n l))) cn fd h xs ys zs wn vl tk lm nb := by
      rw [hg_w6_min hn]
      unfold wY_fillLimited_73
      rw [hg_ix6']
      refine ⟨vp_in_nI (by omega) (by decide), ?_⟩
      refine nm_r (e' := upd lm (61 * n + l) (hg_bI (hg_w6 n l))) (by rw [nI_clamp (by omega), hg_vnar]) (nm_r (nI_1 _) ?_)
      exact hJ _ (hg_GL_up hG hl)
    exact pk_lt n (min n l + 1) (fun _ => h73) (fun h1 => br_t (nI_lt (by omega) (by omega)) h73)
  | d + 1, j, hd => by
    refine br_f (nI_nlt (by omega) (by omega)) (br_f (nI_nlt (by omega) (by omega)) ?_)
    have ih := hy_L21 (post := post) (J2 := J2) (cn := cn) (fd := fd) hn hl hG hJ d (j + 1) (by omega)
    cases e : hg_w6 n j
    · refine br_t rfl (hy_atMost (by omega) ?_)
      have hin : 61 * (n - (j + 1)) + min 60 (2 * (j + 1)) < 3721 := by omega
      have hlk : lm (61 * (n - (j + 1)) + min 60 (2 * (j + 1))) = hg_bI (hg_w6 (n - (j + 1)) (min 60 (2 * (j + 1)))) := hG _ _ (by omega) (by omega) (by omega)
      have hnx := hg_w6_next hn (by omega) e
      rw [hg_ix6 (by omega)]
      refine ⟨vp_in_nI hin (by decide), ?_⟩
      rw [nI_clamp (by omega), hlk]
      cases e2 : hg_w6 (n - (j + 1)) (min 60 (2 * (j + 1)))
      · rw [e2] at hnx
        rw [hnx] at ih
        exact br_t rfl (nm_r (nI_1 _) ih)
      · rw [e2] at hnx
        rw [hnx] at ih
        exact br_f (by decide) (nm_r (nI_1 _) ih)
    · rw [hg_w6_mono e] at ih
      exact br_f (by decide) (nm_r (nI_1 _) ih)
theorem hy_L10 {post : SY → Prop} {J2 : Int32 → (Nat → Int32) → (Nat → Int32) → (Nat → Int32) → (Nat → Int32) → (Nat → Int32) → (Nat → Int32) → (Nat → Int32) → (Nat → Int32) → (Nat → Int32) → Prop} {cn fd : Int32} {xs ys zs wn vl tk nb : Nat → Int32} {n : Nat} (hn : n ≤ 60) (hJ : ∀ lm', hg_GL lm' (n + 1) 0 → J2 (nI (n + 1)) h xs ys zs wn vl tk lm' nb) : ∀ (d l : Nat) (lm : Nat → Int32), l + d = 61 → hg_GL lm n l → wY_fillLimited_10 post J2 (nI n) cn fd (d + 1) (nI l) h xs ys zs wn vl tk lm nb
  | 0, l, lm, hd, hG => by
    have e : l = 61 := hd
    subst e
    exact br_t (by decide) (nm_r (nI_1 _) (hJ lm (hg_GL_s hG)))
  | d + 1, l, lm, hd, hG => by
    refine br_f (nI_nlt (a := 60) (by omega) (by omega)) ⟨min n l + 1, ?_⟩
    have h21 := hy_L21 (post := post) (J2 := J2) (cn := cn) (fd := fd) hn (by omega) hG (fun lm' hG' => hy_L10 (post := post) (J2 := J2) (cn := cn) (fd := fd) hn hJ d (l + 1) lm' (by omega) hG') (min n l) 0 (by omega)
    rw [hg_w6_0] at h21
    exact h21
theorem hy_L2 {post : SY → Prop} {cn fd : Int32} {xs ys zs wn vl tk nb : Nat → Int32} (hp : ∀ lm', hg_GL lm' 61 0 → post (cn, fd, h, xs, ys, zs, wn, vl, tk, lm', nb)) : ∀ (d n : Nat) (lm : Nat → Int32), n + d = 61 → hg_GL lm n 0 → wY_fillLimited_2 post cn fd (d + 1) (nI n) h xs ys zs wn vl tk lm nb
  | 0, n, lm, hd, hG => by
    have e : n = 61 := hd
    subst e
    exact br_t (by decide) (hp lm hG)
  | d + 1, n, lm, hd, hG => by
    refine br_f (nI_nlt (a := 60) (by omega) (by omega)) ⟨62, ?_⟩
    exact hy_L10 (by omega) (fun lm' hG' => hy_L2 hp d (n + 1) lm' (by omega) hG') 61 0 lm (by omega) hG
theorem hy_limited {post : SY → Prop} {cn fd : Int32} {xs ys zs wn vl tk lm nb : Nat → Int32} (hp : ∀ lm', hg_GL lm' 61 0 → post (cn, fd, h, xs, ys, zs, wn, vl, tk, lm', nb)) : wpY_fillLimited post (cn, fd, h, xs, ys, zs, wn, vl, tk, lm, nb) :=
  ⟨62, hy_L2 hp 61 0 lm (by omega) (fun a b _ _ hab => absurd hab (by omega))⟩
theorem hg_mid_at {l1 l2 : List Nat} {v w i : Nat} (e : (l1 ++ v :: l2)[i]? = some w) : (i < l1.length ∧ l1[i]? = some w) ∨ (i = l1.length ∧ w = v) ∨ (∃ j, i = l1.length + 1 + j ∧ l2[j]? = some w) := by
  by_cases hi : i < l1.length
  · rw [List.getElem?_append_left hi] at e
    exact Or.inl ⟨hi, e⟩
  · rw [List.getElem?_append_right (by omega)] at e
    cases e2 : i - l1.length with
    | zero =>
      rw [e2] at e
      exact Or.inr (Or.inl ⟨by omega, (Option.some.inj e).symm⟩)
    | succ j =>
      rw [e2] at e
      exact Or.inr (Or.inr ⟨j, by omega, e⟩)
theorem hy_note5 {post : SY → Prop} {cn : Int32} {xs ys zs wn vl tk lm : Nat → Int32} {v : Nat} (S : List Nat) (hs : S.Pairwise (· ≤ ·)) (hb : ∀ w, w ∈ S → w < 32768) (hv : v < 32768) (hl : S.length < 800) (hp : ∀ nb' S', hg_H nb' S' → S'.Pairwise (· ≤ ·) → List.Perm S' (v :: S) → post (cn, nI S'.length, h, xs, ys, zs, wn, vl, tk, lm, nb')) : ∀ (d : Nat) (l1 l2 : List Nat) (nb : Nat → Int32), l1.length = d → l1 ++ l2 = S → (∀ w, w ∈ l2 → v < w) → (∀ i w, l1[i]? = some w → nb i = nI w) → (∀ i w, l2[i]? = some w → nb (l1.length + 1 + i) = nI w) → wY_note_5 post (nI v) cn (nI S.length) (d + 1) (nI l1.length) h xs ys zs wn vl tk lm nb := by
  have h41 : ∀ (l1 l2 : List Nat) (nb : Nat → Int32), l1 ++ l2 = S → (∀ w, w ∈ l1 → w ≤ v) → (∀ w, w ∈ l2 → v < w) → (∀ i w, l1[i]? = some w → nb i = nI w) → (∀ i w, l2[i]? = some w → nb (l1.length + 1 + i) = nI w) → wY_note_41 post (nI v) (nI l1.length) cn (nI S.length) h xs ys zs wn vl tk lm nb := by
    intro l1 l2 nb e h1 h2 n1 n2
    have hlen : l1.length + l2.length = S.length := by rw [← e, List.length_append]
    refine ⟨vp_in_nI (by omega) (by decide), ?_⟩
    refine nm_r (e' := upd nb l1.length (nI v)) (by rw [nI_clamp (by omega)]) (nm_r (nI_1 _) ?_)
    have hH : hg_H (upd nb l1.length (nI v)) (l1 ++ v :: l2) := by
      intro i w hw
      rcases hg_mid_at hw with ⟨hi, hw⟩ | ⟨hi, hw⟩ | ⟨j, hi, hw⟩
      · rw [hg_upd_ne (by omega)]
        exact n1 i w hw
      · rw [hi, hg_upd_eq, hw]
      · rw [hi, hg_upd_ne (by omega)]
        exact n2 j w hw
    have := hp _ _ hH (hg_insert (by rw [e]; exact hs) h1 (fun w hw => Nat.le_of_lt (h2 w hw))) (by rw [← e]; exact List.perm_middle)
    have el : (l1 ++ v :: l2).length = S.length + 1 := by
      rw [List.length_append]
      show l1.length + (l2.length + 1) = _
      omega
    rw [el] at this
    exact this
  intro d
  induction d with
  | zero =>
    intro l1 l2 nb hd e h2 n1 n2
    have e0 : l1 = [] := List.length_eq_zero_iff.mp hd
    subst e0
    exact br_t (by decide) (h41 [] l2 nb e (fun w hw => absurd hw List.not_mem_nil) h2 n1 n2)
  | succ d ih =>
    intro l1 l2 nb hd e h2 n1 n2
    rcases List.eq_nil_or_concat l1 with e0 | ⟨L, w, e0⟩
    · rw [e0] at hd
      exact absurd hd (by intro z; cases z)
    · rw [List.concat_eq_append] at e0
      subst e0
      have hL : (L ++ [w]).length = L.length + 1 := by rw [List.length_append]; rfl
      have hlen : (L ++ [w]).length + l2.length = S.length := by rw [← e]; exact List.length_append.symm
      have hw : nb L.length = nI w := n1 L.length w List.getElem?_concat_length
      have hwS : w ∈ S := by
        rw [← e]
        exact List.mem_append.mpr (Or.inl (List.mem_append.mpr (Or.inr (List.mem_singleton.mpr rfl))))
      have hwb := hb w hwS
      have em : nI (L ++ [w]).length - 1 = nI L.length := by rw [hL]; exact nI_pred _
      have em2 : nI (L ++ [w]).length + (-1) = nI L.length := by rw [hL]; exact pk_m1 _
      have hin1 : vp_in (nI (L ++ [w]).length - 1) 800 := by rw [em]; exact vp_in_nI (by omega) (by decide)
      have hin2 : vp_in (nI (L ++ [w]).length) 800 := vp_in_nI (by omega) (by decide)
      have ew : nb (nI (L ++ [w]).length - 1).toNatClampNeg = nI w := by rw [em, nI_clamp (by omega)]; exact hw
      refine br_f (nI_nle (by omega) (by omega)) ⟨hin1, ?_⟩
      rw [ew]
      refine pk_le w v (fun h1 => ?_) (fun h1 => ⟨hin1, hin2, ?_⟩)
      · refine h41 (L ++ [w]) l2 nb e (fun u hu => ?_) h2 n1 n2
        rcases List.mem_append.mp hu with hu | hu
        · have hs' := hs
          rw [← e, List.append_assoc, List.pairwise_append] at hs'
          have := hs'.2.2 u hu w List.mem_cons_self
          omega
        · rw [List.mem_singleton] at hu
          omega
      · refine nm_r (e' := upd nb (L ++ [w]).length (nI w)) (by rw [nI_clamp (by omega)]) (nm_r em2 ?_)
        refine ih L (w :: l2) _ (by omega) (by rw [← e, List.append_assoc]; rfl) (fun u hu => ?_) (fun i u hu => ?_) (fun i u hu => ?_)
        · rcases List.mem_cons.mp hu with rfl | hu
          · exact h1
          · exact h2 u hu
        · have hi : i < L.length := (List.getElem?_eq_some_iff.mp hu).1
          rw [hg_upd_ne (by omega)]
          exact n1 i u (by rw [List.getElem?_append_left hi]; exact hu)
        · cases i with
          | zero =>
            have : w = u := Option.some.inj hu
            rw [show L.length + 1 + 0 = (L ++ [w]).length from by omega, hg_upd_eq, this]
          | succ i =>
            rw [hg_upd_ne (by omega), show L.length + 1 + (i + 1) = (L ++ [w]).length + 1 + i from by omega]
            exact n2 i u hu
theorem hy_note {post : SY → Prop} {cn fd : Int32} {xs ys zs wn vl tk lm nb : Nat → Int32} {v : Nat} (S : List Nat) (hfd : fd = nI S.length) (hH : hg_H nb S) (hs : S.Pairwise (· ≤ ·)) (hb : ∀ w, w ∈ S → w < 32768) (hv : v < 32768) (hl : S.length < 800) (hp : ∀ nb' S', hg_H nb' S' → S'.Pairwise (· ≤ ·) → List.Perm S' (v :: S) → post (cn, nI S'.length, h, xs, ys, zs, wn, vl, tk, lm, nb')) : wpY_note post (cn, fd, h, xs, ys, zs, wn, vl, tk, lm, nb) (nI v) := by
  subst hfd
  refine ⟨S.length + 1, ?_⟩
  exact hy_note5 S hs hb hv hl hp S.length S [] nb rfl (List.append_nil S) (fun w hw => absurd hw List.not_mem_nil) hH (fun i w hw => by cases hw)
theorem hy_s125 {post : Int32 → SY → Prop} {xs ys zs wn vl tk lm : Nat → Int32} {g : Nat} (L : List hg_T) (hl : L.length ≤ 800) (hH : hg_H3 xs ys zs L) (hV : ∀ q : hg_T, q ∈ L → hg_Bd q.1 q.2.1 q.2.2 ∧ wn (hg_key q.1 q.2.1 q.2.2) = hg_bI (hg_Wq g q) ∧ hg_num q < 32768) (hp : ∀ nb S, hg_H nb S → S.Pairwise (· ≤ ·) → List.Perm S ((L.filter (fun q => !hg_Wq g q)).map hg_num) → post (nI L.length) (nI L.length, nI S.length, h, xs, ys, zs, wn, vl, tk, lm, nb)) : ∀ (R P : List hg_T) (S : List Nat) (nb : Nat → Int32), P ++ R = L → hg_H nb S → S.Pairwise (· ≤ ·) → List.Perm S ((P.filter (fun q => !hg_Wq g q)).map hg_num) → wY_search_125 post (R.length + 1) (nI P.length) (nI L.length) (nI S.length) h xs ys zs wn vl tk lm nb
  | [], P, S, nb, e, hS, hs, hP => by
    rw [List.append_nil] at e
    subst e
    exact br_t (nI_le (Nat.le_refl _) (by omega)) (hp nb S hS hs hP)
  | q :: R, P, S, nb, e, hS, hs, hP => by
    have hlen : P.length + (R.length + 1) = L.length := by
      rw [← e, List.length_append]
      rfl
    have hq : L[P.length]? = some q := by
      rw [← e, List.getElem?_append_right (Nat.le_refl _), Nat.sub_self]
      rfl
    obtain ⟨ex, ey, ez⟩ := hH _ _ hq
    obtain ⟨hb, hw, hn⟩ := hV q (List.mem_of_getElem? hq)
    have hk := hg_key_lt hb
    have hin : vp_in (nI P.length) 800 := vp_in_nI (by omega) (by decide)
    have e' : P ++ [q] ++ R = L := by rw [List.append_assoc]; exact e
    have ih := fun S nb hS hs hP => hy_s125 (post := post) L hl hH hV hp R (P ++ [q]) S nb e' hS hs hP
    rw [List.length_append] at ih
    have hSl : S.length ≤ P.length := by
      rw [hP.length_eq, List.length_map]
      exact List.length_filter_le _ _
    have hSb : ∀ w, w ∈ S → w < 32768 := by
      intro w hw
      obtain ⟨p, hp, rfl⟩ := List.mem_map.mp (hP.mem_iff.mp hw)
      refine (hV p ?_).2.2
      rw [← e]
      exact List.mem_append.mpr (Or.inl (List.mem_filter.mp hp).1)
    refine br_f (nI_ge (by omega) (by omega)) ⟨hin, hin, hin, ?_⟩
    rw [nI_clamp (by omega), ex, ey, ez]
    refine hy_key rfl rfl rfl ⟨vp_in_nI hk (by decide), ?_⟩
    rw [nI_clamp (by omega), hw]
    cases eW : hg_Wq g q
    · refine br_t rfl ⟨hin, hin, hin, ?_⟩
      have en : nI q.1 + 32 * nI q.2.1 + 1024 * nI q.2.2 = nI (hg_num q) := by
        show nI q.1 + nI 32 * nI q.2.1 + nI 1024 * nI q.2.2 = _
        rw [pk_mul, pk_mul, nI_add, nI_add]
        rfl
      rw [en]
      refine hy_note S rfl hS hs hSb hn (by omega) (fun nb' S' hS' hs' hP' => nm_r (nI_1 _) (ih S' nb' hS' hs' ?_))
      rw [List.filter_append, List.filter_cons_of_pos (by rw [eW]; rfl), List.map_append]
      refine hP'.trans ?_
      refine (List.Perm.cons _ hP).trans ?_
      exact List.perm_append_comm (l₁ := [hg_num q])
    · refine br_f (by decide) (nm_r (nI_1 _) (ih S nb hS hs ?_))
      rw [List.filter_append, List.filter_cons_of_neg (by rw [eW]; decide)]
      rw [show ([] : List hg_T).filter (fun q => !hg_Wq g q) = [] from rfl, List.append_nil]
      exact hP
theorem hy_s74 {post : Int32 → SY → Prop} {cn fd : Int32} {xs ys zs wn vl tk lm nb : Nat → Int32} {n x y z : Nat} (H : hg_Hp h x y z) (hn : n ≤ 60) (hz : z ≤ 15) (hp : post (nI (min n z)) (cn, fd, h, xs, ys, zs, wn, vl, tk, lm, nb)) : wY_search_74 post (nI n) cn fd h xs ys zs wn vl tk lm nb := by
  unfold wY_search_74
  rw [H.2.2]
  refine pk_le z n (fun h1 => ?_) (fun h1 => ?_)
  · rw [show min n z = z from by omega] at hp
    exact hp
  · rw [show min n z = n from by omega] at hp
    exact hp
theorem hy_s22 {post : Int32 → SY → Prop} {cn : Int32} {xs ys zs wn vl tk lm : Nat → Int32} {n x y z : Nat} (H : hg_Hp h x y z) (hn : n ≤ 60) (hz : z ≤ 15) (hG : hg_GL lm 61 0) (hp : ∀ nb S, hg_H nb S → S.Pairwise (· ≤ ·) → List.Perm S ((hg_N6 n z).filter (fun v => !hg_w6 (n - v) (min 60 (2 * v)))) → post (nI (min n z)) (cn, nI S.length, h, xs, ys, zs, wn, vl, tk, lm, nb)) : ∀ (d j : Nat) (S : List Nat) (nb : Nat → Int32), j + d = min n z → hg_H nb S → S.Pairwise (· ≤ ·) → List.Perm S (((List.range j).map (fun k => k + 1)).filter (fun v => !hg_w6 (n - v) (min 60 (2 * v)))) → wY_search_22 post (nI n) (d + 1) (nI (j + 1)) cn (nI S.length) h xs ys zs wn vl tk lm nb
  | 0, j, S, nb, hd, hS, hs, hP => by
    have e : j = min n z := hd
    subst e
    have h74 := hy_s74 (post := post) (cn := cn) H hn hz (hp nb S hS hs hP)
    refine pk_lt n (min n z + 1) (fun _ => h74) (fun h1 => ?_)
    refine br_t ?_ h74
    rw [H.2.2]
    exact nI_lt (by omega) (by omega)
  | d + 1, j, S, nb, hd, hS, hs, hP => by
    have hlt : ¬ h 2 < nI (j + 1) := by rw [H.2.2]; exact nI_nlt (by omega) (by omega)
    have ih := fun S nb hS hs hP => hy_s22 (post := post) (cn := cn) H hn hz hG hp d (j + 1) S nb (by omega) hS hs hP
    rw [List.range_succ, List.map_append, List.filter_append] at ih
    have hSl : S.length ≤ j := by
      have := List.length_filter_le (fun v => !hg_w6 (n - v) (min 60 (2 * v))) ((List.range j).map (fun k => k + 1))
      rw [List.length_map, List.length_range] at this
      rw [hP.length_eq]
      exact this
    have hSb : ∀ w, w ∈ S → w < 32768 := by
      intro w hw
      obtain ⟨k, hk, rfl⟩ := List.mem_map.mp (List.mem_filter.mp (hP.mem_iff.mp hw)).1
      rw [List.mem_range] at hk
      omega
    refine br_f (nI_nlt (by omega) (by omega)) (br_f hlt (hy_atMost (by omega) ?_))
    have hin : 61 * (n - (j + 1)) + min 60 (2 * (j + 1)) < 3721 := by omega
    have hlk : lm (61 * (n - (j + 1)) + min 60 (2 * (j + 1))) = hg_bI (hg_w6 (n - (j + 1)) (min 60 (2 * (j + 1)))) := hG _ _ (by omega) (by omega) (by omega)
    rw [hg_ix6 (by omega)]
    refine ⟨vp_in_nI hin (by decide), ?_⟩
    rw [nI_clamp (by omega), hlk]
    cases e2 : hg_w6 (n - (j + 1)) (min 60 (2 * (j + 1)))
    · refine br_t rfl ?_
      refine hy_note S rfl hS hs hSb (by omega) (by omega) (fun nb' S' hS' hs' hP' => nm_r (nI_1 _) (ih S' nb' hS' hs' ?_))
      have ef : ([j].map (fun k => k + 1)).filter (fun v => !hg_w6 (n - v) (min 60 (2 * v))) = [j + 1] := by
        show [j + 1].filter _ = _
        rw [List.filter_cons_of_pos (by rw [e2]; rfl)]
        rfl
      rw [ef]
      exact hP'.trans ((List.Perm.cons _ hP).trans (List.perm_append_comm (l₁ := [j + 1])))
    · refine br_f (by decide) (nm_r (nI_1 _) (ih S nb hS hs ?_))
      have ef : ([j].map (fun k => k + 1)).filter (fun v => !hg_w6 (n - v) (min 60 (2 * v))) = [] := by
        show [j + 1].filter _ = _
        rw [List.filter_cons_of_neg (by rw [e2]; decide)]
        rfl
      rw [ef, List.append_nil]
      exact hP
theorem hy_counters {post : Int32 → Prop} {cn fd : Int32} {xs ys zs wn vl tk lm nb : Nat → Int32} {x y z : Nat} (H : hg_Hp h x y z) (hx : x ≤ 15) (hy : y ≤ 15) (hp : post (nI (hg_pl x y))) : wpY_counters post (cn, fd, h, xs, ys, zs, wn, vl, tk, lm, nb) := by
  have e : h 0 + 16 * h 1 = nI (x + 16 * y) := by
    rw [H.1, H.2.1]
    show nI x + nI 16 * nI y = _
    rw [pk_mul, nI_add]
  refine nm_r e ?_
  unfold hg_pl at hp
  refine pk_le (x + 16 * y) 60 (fun h1 => ?_) (fun h1 => ?_)
  · rw [show min (x + 16 * y) 60 = x + 16 * y from by omega] at hp
    exact hp
  · rw [show min (x + 16 * y) 60 = 60 from by omega] at hp
    exact hp
theorem hy_search {post : Int32 → SY → Prop} {cn fd : Int32} {xs ys zs wn vl tk lm nb : Nat → Int32} {g x y z : Nat} (H : hg_Hp h x y z) (hg : g < 8) (hx : x ≤ 15) (hy : y ≤ 15) (hz : z ≤ 15) (hp : ∀ cn xs ys zs wn vl tk lm nb S, hg_H nb S → S.Pairwise (· ≤ ·) → List.Perm S (hg_XF g x y z) → post (nI (hg_XN g x y z).length) (cn, nI S.length, h, xs, ys, zs, wn, vl, tk, lm, nb)) : wpY_search post (cn, fd, h, xs, ys, zs, wn, vl, tk, lm, nb) (nI g) := by
  refine pk_eq g 6 (fun e => ?_) (fun e6 => ?_)
  · subst e
    have hpl : hg_pl x y ≤ 60 := by unfold hg_pl; omega
    refine hy_limited (fun lm' hG => ?_)
    refine hy_counters H hx hy ?_
    refine ⟨min (hg_pl x y) z + 1, ?_⟩
    refine hy_s22 H hpl hz hG (fun nb S hS hs hP => ?_) (min (hg_pl x y) z) 0 [] nb (by omega) (hg_H_0 _) List.Pairwise.nil (List.Perm.refl _)
    have eF : hg_XF 6 x y z = (hg_N6 (hg_pl x y) z).filter (fun v => !hg_w6 (hg_pl x y - v) (min 60 (2 * v))) := by
      show (hg_N6 (hg_pl x y) z).filter (fun v => !hg_w6 (hg_pl x y - v) (2 * v)) = _
      refine List.filter_congr (fun v hv => ?_)
      have := hg_mem6.mp hv
      rw [show min 60 (2 * v) = 2 * v from by omega]
    have eN : (hg_XN 6 x y z).length = min (hg_pl x y) z := by
      show (hg_N6 (hg_pl x y) z).length = _
      unfold hg_N6
      rw [List.length_map, List.length_range]
    have := hp cn xs ys zs wn vl tk lm' nb S hS hs (by rw [eF]; exact hP)
    rw [eN] at this
    exact this
  · refine hy_fill H hx hy hz hg e6 (fun cn xs ys zs wn vl tk hR => ?_)
    dsimp only
    rw [H.1, H.2.1, H.2.2]
    refine hy_list hg (by omega) (by omega) (by omega) (fun xs' ys' zs' H' => ?_)
    have hperm := hg_perm g x y z hx hy hz
    refine ⟨(hg_LY g x y z).length + 1, ?_⟩
    refine hy_s125 (g := g) (hg_LY g x y z) (hg_LY_len (by omega) (by omega) (by omega)) H' (fun q hq => ?_) (fun nb S hS hs hP => ?_) (hg_LY g x y z) [] [] nb rfl (hg_H_0 _) List.Pairwise.nil (List.Perm.refl _)
    · have hq' := hperm.mem_iff.mp hq
      obtain ⟨a1, a2, a3⟩ := hR q (Or.inr hq')
      have hb := hg_bd hx hy hz hq'
      refine ⟨a1, a2, ?_⟩
      unfold hg_num
      omega
    · have eF : hg_XF g x y z = hg_F g x y z := by
        rw [← hg_F_eq hx hy hz]
        unfold hg_XF
        rw [hg_XN_6 e6]
        refine List.filter_congr (fun v hv => ?_)
        unfold hg_PA
        rw [if_neg e6]
      have eN : (hg_XN g x y z).length = (hg_LY g x y z).length := by
        rw [hg_XN_6 e6, List.length_map, hperm.length_eq]
      have := hp (nI (hg_LY g x y z).length) xs' ys' zs' wn vl tk lm nb S hS hs (by rw [eF]; exact hP.trans ((hperm.filter _).map _))
      rw [eN] at this
      exact this
end
