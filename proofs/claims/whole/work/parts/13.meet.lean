theorem hg_sort (F : List Nat) : ∃ S, List.Perm F S ∧ S.Pairwise (· ≤ ·) := by
  refine ⟨F.mergeSort (fun a b => decide (a ≤ b)), (List.mergeSort_perm F _).symm, ?_⟩
  have h := List.pairwise_mergeSort (le := fun a b : Nat => decide (a ≤ b)) (fun a b c h1 h2 => decide_eq_true (Nat.le_trans (of_decide_eq_true h1) (of_decide_eq_true h2))) (fun a b => by
    rcases Nat.le_total a b with h | h
    · rw [decide_eq_true h]; rfl
    · rw [decide_eq_true h, Bool.or_true]) F
  exact List.Pairwise.imp (fun h => of_decide_eq_true h) h
theorem hg_sort_eq {S T : List Nat} (h : List.Perm S T) (h1 : S.Pairwise (· ≤ ·)) (h2 : T.Pairwise (· ≤ ·)) : S = T :=
  List.Perm.eq_of_pairwise (fun _ _ _ _ hab hba => Nat.le_antisymm hab hba) h1 h2 h
theorem hg_XF_eq {g x y z : Nat} (h6 : g ≠ 6) (hx : x ≤ 15) (hy : y ≤ 15) (hz : z ≤ 15) : hg_XF g x y z = hg_F g x y z := by
  rw [← hg_F_eq hx hy hz]
  unfold hg_XF
  rw [hg_XN_6 h6]
  refine List.filter_congr (fun v hv => ?_)
  unfold hg_PA
  rw [if_neg h6]
theorem hg_XF_nd {g x y z : Nat} (hx : x ≤ 15) (hy : y ≤ 15) (hz : z ≤ 15) : (hg_XF g x y z).Nodup := by
  by_cases h6 : g = 6
  · subst h6
    refine List.Nodup.sublist List.filter_sublist ?_
    exact List.Pairwise.imp (fun h => Nat.ne_of_lt h) (hg_nd6 (hg_pl x y) z)
  · rw [hg_XF_eq h6 hx hy hz]
    exact hg_F_nd hx hy hz
theorem hg_Wn_iff {g x y z : Nat} (hg : g < 8) (hx : x ≤ 15) (hy : y ≤ 15) (hz : z ≤ 15) : hg_Wn g x y z = true ↔ 0 < (hg_XF g x y z).length ∨ (g = 1 ∧ (hg_XN g x y z).length = 0) := by
  by_cases h6 : g = 6
  · subst h6
    have hpl : hg_pl x y ≤ 60 := by unfold hg_pl; omega
    show hg_w6 (hg_pl x y) z = true ↔ _
    rw [hg_K6 hpl, List.length_pos_iff_exists_mem]
    constructor
    · rintro ⟨v, hv, e⟩
      have hm := hg_mem6.mp hv
      refine Or.inl ⟨v, List.mem_filter.mpr ⟨hv, ?_⟩⟩
      rw [show min 60 (2 * v) = 2 * v from by omega] at e
      show (!hg_w6 (hg_pl x y - v) (2 * v)) = true
      rw [e]; rfl
    · rintro (⟨v, hv⟩ | ⟨e, _⟩)
      · obtain ⟨h1, h2⟩ := List.mem_filter.mp hv
        have h1' : v ∈ hg_N6 (hg_pl x y) z := h1
        have hm := hg_mem6.mp h1'
        refine ⟨v, h1', ?_⟩
        have h2' : (!hg_w6 (hg_pl x y - v) (2 * v)) = true := h2
        rw [Bool.not_eq_true'] at h2'
        rw [show min 60 (2 * v) = 2 * v from by omega]
        exact h2'
      · exact absurd e (by decide)
  · have e : hg_Wn g x y z = hg_W g x y z := by
      unfold hg_Wn
      rw [if_neg h6]
    rw [e, hg_F_len hg h6 hx hy hz, hg_XF_eq h6 hx hy hz, hg_XN_6 h6, List.length_map]
theorem hg_game (v : Int32) : (v < 0 ∨ (¬ v < 0 ∧ (7 < v ∧ ¬ v ≤ 7))) ∨ ∃ g, g < 8 ∧ v = nI g := by
  by_cases h : v < 0
  · exact Or.inl (Or.inl h)
  · obtain ⟨j, hj, rfl⟩ := nI_of h
    by_cases h8 : j < 8
    · exact Or.inr ⟨j, h8, rfl⟩
    · exact Or.inl (Or.inr ⟨h, nI_lt (a := 7) (by omega) hj, nI_ge (a := 7) (by omega) hj⟩)
theorem hx_bad {post : Int32 → Prop} {v : Int32} (h : v < 0 ∨ (¬ v < 0 ∧ (7 < v ∧ ¬ v ≤ 7))) (hp : post 0) : wpX_isGame post v := by
  rcases h with h | ⟨h, h7, _⟩
  · exact br_t h hp
  · exact br_f h (br_t h7 hp)
theorem hx_good {post : Int32 → Prop} {g : Nat} (h : g < 8) (hp : post 1) : wpX_isGame post (nI g) :=
  br_f (nI_pos (by omega)) (br_f (nI_nlt (a := 7) (by omega) (by omega)) hp)
theorem hg_m4ne {v : Nat} (h : v < 32768) : ¬ nI v = -4 := by
  intro e
  have h1 : ¬ nI v < 0 := nI_pos (by omega)
  rw [e] at h1
  exact h1 (by decide)
section
variable {h : Nat → Int32}
theorem hy_bad {post : Int32 → Prop} {cn fd : Int32} {xs ys zs wn vl tk lm nb : Nat → Int32} {v : Int32} (hv : v < 0 ∨ (¬ v < 0 ∧ (7 < v ∧ ¬ v ≤ 7))) (hp : post 1) : wpY_noGame post (cn, fd, h, xs, ys, zs, wn, vl, tk, lm, nb) v := by
  rcases hv with hv | ⟨hv, _, h7⟩
  · exact br_t hv hp
  · exact br_f hv (br_f h7 hp)
theorem hy_good {post : Int32 → Prop} {cn fd : Int32} {xs ys zs wn vl tk lm nb : Nat → Int32} {g : Nat} (hg : g < 8) (hp : post 0) : wpY_noGame post (cn, fd, h, xs, ys, zs, wn, vl, tk, lm, nb) (nI g) :=
  br_f (nI_pos (by omega)) (br_t (nI_le (b := 7) (by omega) (by decide)) hp)
theorem hy_won {post : Int32 → SY → Prop} {cn fd : Int32} {xs ys zs wn vl tk lm nb : Nat → Int32} {g x y z : Nat} (H : hg_Hp h x y z) (hg : g < 8) (hx : x ≤ 15) (hy : y ≤ 15) (hz : z ≤ 15) (hp : ∀ cn fd xs ys zs wn vl tk lm nb, post (hg_bI (hg_Wn g x y z)) (cn, fd, h, xs, ys, zs, wn, vl, tk, lm, nb)) : wpY_won post (cn, fd, h, xs, ys, zs, wn, vl, tk, lm, nb) (nI g) := by
  unfold wpY_won
  dsimp only
  refine hy_good hg (br_t rfl ?_)
  refine hy_search H hg hx hy hz (fun cn xs ys zs wn vl tk lm nb S hS hs hP => ?_)
  have hW := hg_Wn_iff hg hx hy hz
  rw [← hP.length_eq] at hW
  have hSl : S.length ≤ 720 := by
    rw [hP.length_eq]
    exact Nat.le_trans (List.length_filter_le _ _) (hg_XN_len hx hy hz)
  have hNl := hg_XN_len (g := g) hx hy hz
  have hp1 : hg_Wn g x y z = true → post 1 (cn, nI S.length, h, xs, ys, zs, wn, vl, tk, lm, nb) := by
    intro e
    have := hp cn (nI S.length) xs ys zs wn vl tk lm nb
    rw [e] at this
    exact this
  have hp0 : ¬ hg_Wn g x y z = true → post 0 (cn, nI S.length, h, xs, ys, zs, wn, vl, tk, lm, nb) := by
    intro e
    have := hp cn (nI S.length) xs ys zs wn vl tk lm nb
    rw [Bool.not_eq_true] at e
    rw [e] at this
    exact this
  refine pk_lt 0 S.length (fun h1 => hp1 (hW.mpr (Or.inl h1))) (fun h1 => ?_)
  refine pk_eq g 1 (fun e => pk_eq (hg_XN g x y z).length 0 (fun e2 => hp1 (hW.mpr (Or.inr ⟨e, e2⟩))) (fun e2 => hp0 (fun z => ?_))) (fun e => hp0 (fun z => ?_))
  · rcases hW.mp z with h2 | ⟨_, h2⟩
    · omega
    · exact e2 h2
  · rcases hW.mp z with h2 | ⟨h2, _⟩
    · omega
    · exact e h2
end
theorem hg_Hp_upd {h : Nat → Int32} {x y z j n : Nat} (H : hg_Hp h x y z) (hx : x ≤ 15) (hy : y ≤ 15) (hz : z ≤ 15) (hj : j < 3) (hn : n ≤ 15) : ∃ x' y' z', x' ≤ 15 ∧ y' ≤ 15 ∧ z' ≤ 15 ∧ hg_Hp (upd h j (nI n)) x' y' z' := by
  have : j = 0 ∨ j = 1 ∨ j = 2 := by omega
  rcases this with rfl | rfl | rfl
  · exact ⟨n, y, z, hn, hy, hz, hg_upd_eq, (hg_upd_ne (by decide)).trans H.2.1, (hg_upd_ne (by decide)).trans H.2.2⟩
  · exact ⟨x, n, z, hx, hn, hz, (hg_upd_ne (by decide)).trans H.1, hg_upd_eq, (hg_upd_ne (by decide)).trans H.2.2⟩
  · exact ⟨x, y, n, hx, hy, hn, (hg_upd_ne (by decide)).trans H.1, (hg_upd_ne (by decide)).trans H.2.1, hg_upd_eq⟩
theorem hg_Hp_new (h : Nat → Int32) (a b c : Nat) : hg_Hp (upd (upd (upd h 0 (nI a)) 1 (nI b)) 2 (nI c)) a b c :=
  ⟨(hg_upd_ne (by decide)).trans ((hg_upd_ne (by decide)).trans hg_upd_eq), (hg_upd_ne (by decide)).trans hg_upd_eq, hg_upd_eq⟩
