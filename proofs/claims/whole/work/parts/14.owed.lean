/-- both have the same heaps, of 0 to 15 counters; all else is made anew by each call -/
def i_Rel (k : Nat) (u : SX) (v : SY) : Prop := ∃ x y z : Nat, x ≤ 15 ∧ y ≤ 15 ∧ z ≤ 15 ∧ hg_Hp u.2.1 x y z ∧ u.2.1 = v.2.2.1
theorem i_up {k : Nat} {u : SX} {v : SY} (h : i_Rel k u v) : i_Rel (k + 3) u v := h
theorem i_vc0 : wpX_init (fun u => wpY_init (fun v => i_Rel 0 u v)) :=
  ⟨0, 0, 0, by decide, by decide, by decide, ⟨rfl, rfl, rfl⟩, rfl⟩
theorem i_vc_heap {k : Nat} {u : SX} {v : SY} (I : i_Rel k u v) (hk : k + 3 ≤ 1536) (v1 : Int32) (v2 : Int32) : wpX_heap (fun r u' => wpY_heap (fun r' v' => r' = r ∧ i_Rel (k + 3) u' v') v v1 v2) u v1 v2 := by
  obtain ⟨l, h, a⟩ := u
  obtain ⟨cn, fd, h', xs, ys, zs, wn, vl, tk, lm, nb⟩ := v
  have I' := I
  obtain ⟨x, y, z, hx, hy, hz, H, e⟩ := I
  dsimp only at H e
  subst e
  unfold wpX_heap
  dsimp only
  by_cases h1 : v1 < 0
  · exact br_t h1 (br_t rfl (br_t h1 ⟨rfl, I'⟩))
  · obtain ⟨j, hj, rfl⟩ := nI_of h1
    by_cases h3 : j < 3
    · have n3 : ¬ (3 : Int32) ≤ nI j := nI_ge (b := 3) h3 (by decide)
      have n2 : ¬ (2 : Int32) < nI j := nI_nlt (a := 2) (by omega) (by omega)
      refine br_f h1 (br_f n3 (br_f (by decide) ?_))
      by_cases h2 : v2 < 0
      · exact br_t h2 (br_f h1 (br_f n2 (br_t h2 ⟨rfl, I'⟩)))
      · obtain ⟨n, hn, rfl⟩ := nI_of h2
        by_cases h15 : n ≤ 15
        · have l15 : nI n ≤ 15 := nI_le (b := 15) h15 (by decide)
          have hin : vp_in (nI j) 3 := vp_in_nI h3 (by decide)
          refine br_f h2 (br_t l15 ⟨hin, nm_e ⟨hin, nm_e ?_⟩⟩)
          refine br_f h1 (br_f n2 (br_f h2 (br_t l15 ⟨hin, nm_e ⟨hin, nm_e ⟨rfl, ?_⟩⟩⟩)))
          obtain ⟨x', y', z', hx', hy', hz', H'⟩ := hg_Hp_upd H hx hy hz h3 h15
          rw [nI_clamp hj]
          exact ⟨x', y', z', hx', hy', hz', H', rfl⟩
        · have l15 : ¬ nI n ≤ 15 := nI_ge (a := 15) (by omega) hn
          exact br_f h2 (br_f l15 (br_f h1 (br_f n2 (br_f h2 (br_f l15 ⟨rfl, I'⟩)))))
    · have n3 : (3 : Int32) ≤ nI j := nI_le (a := 3) (by omega) hj
      have n2 : (2 : Int32) < nI j := nI_lt (a := 2) (by omega) hj
      exact br_f h1 (br_t n3 (br_t rfl (br_f h1 (br_t n2 ⟨rfl, I'⟩))))
theorem i_vc_has {k : Nat} {u : SX} {v : SY} (I : i_Rel k u v) (hk : k + 3 ≤ 1536) (v1 : Int32) : wpX_has (fun r => wpY_has (fun r' => r' = r ∧ i_Rel (k + 3) u v) v v1) u v1 := by
  obtain ⟨l, h, a⟩ := u
  obtain ⟨cn, fd, h', xs, ys, zs, wn, vl, tk, lm, nb⟩ := v
  have I' := I
  obtain ⟨x, y, z, hx, hy, hz, H, e⟩ := I
  dsimp only at H e
  subst e
  unfold wpX_has
  dsimp only
  by_cases h1 : v1 < 0
  · exact br_t h1 (br_t rfl (br_t h1 ⟨rfl, I'⟩))
  · obtain ⟨j, hj, rfl⟩ := nI_of h1
    by_cases h3 : j < 3
    · have n3 : ¬ (3 : Int32) ≤ nI j := nI_ge (b := 3) h3 (by decide)
      have n2 : nI j ≤ 2 := nI_le (b := 2) (by omega) (by omega)
      have hin : vp_in (nI j) 3 := vp_in_nI h3 (by decide)
      exact br_f h1 (br_f n3 (br_f (by decide) ⟨hin, br_f h1 (br_t n2 ⟨hin, rfl, I'⟩)⟩))
    · have n3 : (3 : Int32) ≤ nI j := nI_le (a := 3) (by omega) hj
      have n2 : ¬ nI j ≤ 2 := nI_ge (a := 2) (by omega) hj
      exact br_f h1 (br_t n3 (br_t rfl (br_f h1 (br_f n2 ⟨rfl, I'⟩))))
theorem i_vc_won {k : Nat} {u : SX} {v : SY} (I : i_Rel k u v) (hk : k + 3 ≤ 1536) (v1 : Int32) : wpX_won (fun r => wpY_won (fun r' v' => r' = r ∧ i_Rel (k + 3) u v') v v1) u v1 := by
  obtain ⟨l, h, a⟩ := u
  obtain ⟨cn, fd, h', xs, ys, zs, wn, vl, tk, lm, nb⟩ := v
  have I' := I
  obtain ⟨x, y, z, hx, hy, hz, H, e⟩ := I
  dsimp only at H e
  subst e
  unfold wpX_won
  dsimp only
  rcases hg_game v1 with hb | ⟨g, hg, rfl⟩
  · refine hx_bad hb (br_t rfl ?_)
    unfold wpY_won
    dsimp only
    exact hy_bad hb (br_f (by decide) ⟨rfl, I'⟩)
  · refine hx_good hg (br_f (by decide) ?_)
    refine hx_now H hg hx hy hz ?_
    cases e : hg_Wn g x y z
    · refine br_t rfl (hy_won H hg hx hy hz (fun cn fd xs ys zs wn vl tk lm nb => ?_))
      rw [e]
      exact ⟨rfl, x, y, z, hx, hy, hz, H, rfl⟩
    · refine br_f (by decide) (hy_won H hg hx hy hz (fun cn fd xs ys zs wn vl tk lm nb => ?_))
      rw [e]
      exact ⟨rfl, x, y, z, hx, hy, hz, H, rfl⟩
theorem i_vc_moves {k : Nat} {u : SX} {v : SY} (I : i_Rel k u v) (hk : k + 3 ≤ 1536) (v1 : Int32) : wpX_moves (fun r u' => wpY_moves (fun r' v' => r' = r ∧ i_Rel (k + 3) u' v') v v1) u v1 := by
  obtain ⟨l, h, a⟩ := u
  obtain ⟨cn, fd, h', xs, ys, zs, wn, vl, tk, lm, nb⟩ := v
  have I' := I
  obtain ⟨x, y, z, hx, hy, hz, H, e⟩ := I
  dsimp only at H e
  subst e
  unfold wpX_moves
  dsimp only
  rcases hg_game v1 with hb | ⟨g, hg, rfl⟩
  · refine hx_bad hb (br_t rfl ?_)
    unfold wpY_moves
    dsimp only
    exact hy_bad hb (br_f (by decide) ⟨rfl, I'⟩)
  · refine hx_good hg (br_f (by decide) ?_)
    refine hx_moves H hg hx hy hz (fun a1 _ => ?_)
    dsimp only
    unfold wpY_moves
    dsimp only
    refine hy_good hg (br_t rfl ?_)
    refine hy_search H hg hx hy hz (fun cn xs ys zs wn vl tk lm nb S hS hs hP => ?_)
    exact ⟨rfl, x, y, z, hx, hy, hz, H, rfl⟩
theorem i_vc_winning {k : Nat} {u : SX} {v : SY} (I : i_Rel k u v) (hk : k + 3 ≤ 1536) (v1 : Int32) : wpX_winning (fun r u' => wpY_winning (fun r' v' => r' = r ∧ i_Rel (k + 3) u' v') v v1) u v1 := by
  obtain ⟨l, h, a⟩ := u
  obtain ⟨cn, fd, h', xs, ys, zs, wn, vl, tk, lm, nb⟩ := v
  have I' := I
  obtain ⟨x, y, z, hx, hy, hz, H, e⟩ := I
  dsimp only at H e
  subst e
  unfold wpX_winning
  dsimp only
  rcases hg_game v1 with hb | ⟨g, hg, rfl⟩
  · refine hx_bad hb (br_t rfl ?_)
    unfold wpY_winning
    dsimp only
    exact hy_bad hb (br_f (by decide) ⟨rfl, I'⟩)
  · refine hx_good hg (br_f (by decide) ?_)
    refine hx_win H hg hx hy hz (fun a1 _ => ?_)
    dsimp only
    unfold wpY_winning
    dsimp only
    refine hy_good hg (br_t rfl ?_)
    refine hy_search H hg hx hy hz (fun cn xs ys zs wn vl tk lm nb S hS hs hP => ?_)
    exact ⟨by rw [hP.length_eq], x, y, z, hx, hy, hz, H, rfl⟩
theorem i_vc_winningMove {k : Nat} {u : SX} {v : SY} (I : i_Rel k u v) (hk : k + 3 ≤ 1536) (v1 : Int32) (v2 : Int32) : wpX_winningMove (fun r u' => wpY_winningMove (fun r' v' => r' = r ∧ i_Rel (k + 3) u' v') v v1 v2) u v1 v2 := by
  obtain ⟨l, h, a⟩ := u
  obtain ⟨cn, fd, h', xs, ys, zs, wn, vl, tk, lm, nb⟩ := v
  have I' := I
  obtain ⟨x, y, z, hx, hy, hz, H, e⟩ := I
  dsimp only at H e
  subst e
  unfold wpX_winningMove
  dsimp only
  rcases hg_game v1 with hb | ⟨g, hg, rfl⟩
  · refine hx_bad hb (br_t rfl ?_)
    unfold wpY_winningMove
    dsimp only
    exact hy_bad hb (br_f (by decide) ⟨rfl, I'⟩)
  · refine hx_good hg (br_f (by decide) ?_)
    refine hx_win H hg hx hy hz (fun a1 H1 => ?_)
    obtain ⟨T, hT, hTs⟩ := hg_sort (hg_XF g x y z)
    have hTlt : T.Pairwise (· < ·) := hg_strict hTs (hT.nodup (hg_XF_nd hx hy hz))
    have hXl : (hg_XF g x y z).length ≤ 720 := Nat.le_trans (List.length_filter_le _ _) (hg_XN_len hx hy hz)
    have hTl : T.length ≤ 720 := by rw [← hT.length_eq]; exact hXl
    refine hx_above H1 hXl (fun w hw => (hg_XN_bd hx hy hz (List.mem_filter.mp hw).1).1) hT hTlt (fun j w hj e => ?_) (fun hn => ?_)
    · have hjl : j < T.length := (List.getElem?_eq_some_iff.mp hj).1
      subst e
      unfold wpY_winningMove
      dsimp only
      refine hy_good hg (br_t rfl ?_)
      refine hy_search H hg hx hy hz (fun cn xs ys zs wn vl tk lm nb S hS hs hP => ?_)
      have eS : S = T := hg_sort_eq (hP.trans hT) hs hTs
      subst eS
      refine br_f (nI_pos (by omega)) (br_t (nI_lt hjl (by omega)) ⟨vp_in_nI (by omega) (by decide), ?_⟩)
      rw [nI_clamp (by omega)]
      exact ⟨hS j w hj, x, y, z, hx, hy, hz, H, rfl⟩
    · unfold wpY_winningMove
      dsimp only
      refine hy_good hg (br_t rfl ?_)
      refine hy_search H hg hx hy hz (fun cn xs ys zs wn vl tk lm nb S hS hs hP => ?_)
      have eS : S = T := hg_sort_eq (hP.trans hT) hs hTs
      subst eS
      by_cases h1 : v2 < 0
      · exact br_t h1 ⟨rfl, x, y, z, hx, hy, hz, H, rfl⟩
      · obtain ⟨j, hj, rfl⟩ := nI_of h1
        have hjl : ¬ j < S.length := fun hlt => hn j hlt rfl
        exact br_f h1 (br_f (nI_nlt (by omega) (by omega)) ⟨rfl, x, y, z, hx, hy, hz, H, rfl⟩)
theorem i_vc_value {k : Nat} {u : SX} {v : SY} (I : i_Rel k u v) (hk : k + 3 ≤ 1536) (v1 : Int32) : wpX_value (fun r => wpY_value (fun r' v' => r' = r ∧ i_Rel (k + 3) u v') v v1) u v1 := by
  obtain ⟨l, h, a⟩ := u
  obtain ⟨cn, fd, h', xs, ys, zs, wn, vl, tk, lm, nb⟩ := v
  have I' := I
  obtain ⟨x, y, z, hx, hy, hz, H, e⟩ := I
  dsimp only at H e
  subst e
  have hv : ∀ (g : Nat) (post : Int32 → SY → Prop), g < 8 → g ≠ 6 → (∀ cn fd xs ys zs wn vl tk lm nb, post (nI (hg_V g x y z)) (cn, fd, h, xs, ys, zs, wn, vl, tk, lm, nb)) → wY_value_12 post (nI g) cn fd h xs ys zs wn vl tk lm nb := by
    intro g post hg h6 hp
    unfold wY_value_12
    refine hy_fill H hx hy hz hg h6 (fun cn xs ys zs wn vl tk hR => ?_)
    dsimp only
    obtain ⟨hb, _, hvl⟩ := hR (x, y, z) (Or.inl rfl)
    dsimp only at hb hvl
    have hkl := hg_key_lt hb
    refine hy_key H.1 H.2.1 H.2.2 ⟨vp_in_nI hkl (by decide), ?_⟩
    rw [nI_clamp (by omega), hvl]
    exact hp _ _ _ _ _ _ _ _ _ _
  have ex : h 0 ^^^ h 1 ^^^ h 2 = nI (x ^^^ y ^^^ z) := by rw [H.1, H.2.1, H.2.2, hg_xI]
  refine nm_r ex ?_
  by_cases h0 : v1 = 0
  · subst h0
    exact br_t rfl (br_t rfl (hv 0 _ (by decide) (by decide) (fun cn fd xs ys zs wn vl tk lm nb => ⟨rfl, x, y, z, hx, hy, hz, H, rfl⟩)))
  · by_cases h7 : v1 = 7
    · subst h7
      have e3 : nI (x ^^^ y ^^^ z) &&& 3 = nI ((x ^^^ y ^^^ z) &&& 3) := nx_and _ 3
      refine br_f h0 (br_t rfl (br_f h0 (br_t rfl (hv 7 _ (by decide) (by decide) (fun cn fd xs ys zs wn vl tk lm nb => ⟨?_, x, y, z, hx, hy, hz, H, rfl⟩)))))
      rw [e3]
      rfl
    · exact br_f h0 (br_f h7 (br_f h0 (br_f h7 ⟨rfl, I'⟩)))
theorem i_vc_play {k : Nat} {u : SX} {v : SY} (I : i_Rel k u v) (hk : k + 3 ≤ 1536) (v1 : Int32) (v2 : Int32) : wpX_play (fun r u' => wpY_play (fun r' v' => r' = r ∧ i_Rel (k + 3) u' v') v v1 v2) u v1 v2 := by
  obtain ⟨l, h, a⟩ := u
  obtain ⟨cn, fd, h', xs, ys, zs, wn, vl, tk, lm, nb⟩ := v
  have I' := I
  obtain ⟨x, y, z, hx, hy, hz, H, e⟩ := I
  dsimp only at H e
  subst e
  unfold wpX_play
  dsimp only
  rcases hg_game v1 with hb | ⟨g, hg, rfl⟩
  · refine hx_bad hb (br_t rfl ?_)
    unfold wpY_play
    dsimp only
    exact hy_bad hb (br_f (by decide) ⟨rfl, I'⟩)
  · refine hx_good hg (br_f (by decide) ?_)
    by_cases g3 : nI g = 3
    · refine br_t g3 ?_
      unfold wpY_play
      dsimp only
      exact hy_good hg (br_t rfl (br_t g3 ⟨rfl, I'⟩))
    · refine br_f g3 ?_
      by_cases g6 : nI g = 6
      · refine br_t g6 ?_
        unfold wpY_play
        dsimp only
        exact hy_good hg (br_t rfl (br_f g3 (br_t g6 ⟨rfl, I'⟩)))
      · refine br_f g6 ?_
        have n3 : g ≠ 3 := fun e => g3 (by rw [e]; rfl)
        have n6 : g ≠ 6 := fun e => g6 (by rw [e]; rfl)
        refine hx_win H hg hx hy hz (fun a1 H1 => ?_)
        obtain ⟨T, hT, hTs⟩ := hg_sort (hg_XF g x y z)
        have hTlt : T.Pairwise (· < ·) := hg_strict hTs (hT.nodup (hg_XF_nd hx hy hz))
        have hXl : (hg_XF g x y z).length ≤ 720 := Nat.le_trans (List.length_filter_le _ _) (hg_XN_len hx hy hz)
        have hTl : T.length ≤ 720 := by rw [← hT.length_eq]; exact hXl
        refine hx_above H1 hXl (fun w hw => (hg_XN_bd hx hy hz (List.mem_filter.mp hw).1).1) hT hTlt (fun j w hj e => ?_) (fun hn => ?_)
        · have hjl : j < T.length := (List.getElem?_eq_some_iff.mp hj).1
          subst e
          have hwF : w ∈ hg_XF g x y z := hT.mem_iff.mpr (List.mem_of_getElem? hj)
          have hwN : w ∈ hg_XN g x y z := (List.mem_filter.mp hwF).1
          have hwb := (hg_XN_bd hx hy hz hwN).1
          have hdec : w % 32 ≤ 15 ∧ w % 1024 / 32 ≤ 15 ∧ w / 1024 ≤ 15 ∧ w / 32 % 32 = w % 1024 / 32 := by
            rw [hg_XN_6 n6] at hwN
            obtain ⟨q, hq, rfl⟩ := List.mem_map.mp hwN
            have hbq := hg_bd hx hy hz hq
            have hd := hg_num_dec (p := q) ⟨by omega, by omega⟩
            have hb2 := hbq.2.2.2 n3
            rw [hd.1, hd.2.1, hd.2.2.1, hd.2.2.2]
            exact ⟨hb2.1, hb2.2, hbq.2.2.1, rfl⟩
          have e0 : nI w - nI w / 32 * 32 = nI (w % 32) := pk_rem (d := 32) (by omega) (by omega) (by omega)
          have e1 : (nI w - nI w / 1024 * 1024) / 32 = nI (w % 1024 / 32) := by
            have := pk_rem (a := w) (d := 1024) (by omega) (by omega) (by omega)
            show (nI w - nI w / nI 1024 * nI 1024) / nI 32 = _
            rw [this, pk_div (by omega) (by omega) (by omega)]
          have e2 : nI w / 1024 = nI (w / 1024) := pk_div (d := 1024) (by omega) (by omega) (by omega)
          have e1' : nI w / 32 - nI w / 32 / 32 * 32 = nI (w % 1024 / 32) := by
            have ed : nI w / 32 = nI (w / 32) := pk_div (d := 32) (by omega) (by omega) (by omega)
            rw [ed, ← hdec.2.2.2]
            exact pk_rem (d := 32) (by omega) (by omega) (by omega)
          have Hn := hg_Hp_new h (w % 32) (w % 1024 / 32) (w / 1024)
          refine br_f (hg_m4ne hwb) ?_
          refine ⟨by decide, nm_r (e' := upd h 0 (nI (w % 32))) (by rw [e0]) ?_⟩
          refine ⟨by decide, by decide, nm_r (e' := upd (upd h 0 (nI (w % 32))) 1 (nI (w % 1024 / 32))) (by rw [e1]) ?_⟩
          refine ⟨by decide, nm_r (e' := upd (upd (upd h 0 (nI (w % 32))) 1 (nI (w % 1024 / 32))) 2 (nI (w / 1024))) (by rw [e2]) ?_⟩
          have hY : wpY_play (fun r' v' => r' = hg_bI (hg_Wn g (w % 32) (w % 1024 / 32) (w / 1024)) ∧ i_Rel (k + 3) (nI (hg_XF g x y z).length, upd (upd (upd h 0 (nI (w % 32))) 1 (nI (w % 1024 / 32))) 2 (nI (w / 1024)), a1) v') (cn, fd, h, xs, ys, zs, wn, vl, tk, lm, nb) (nI g) (nI j) := by
            unfold wpY_play
            dsimp only
            refine hy_good hg (br_t rfl (br_f g3 (br_f g6 ?_)))
            refine hy_search H hg hx hy hz (fun cn xs ys zs wn vl tk lm nb S hS hs hP => ?_)
            have eS : S = T := hg_sort_eq (hP.trans hT) hs hTs
            subst eS
            have hin : vp_in (nI j) 800 := vp_in_nI (by omega) (by decide)
            have en : nb (nI j).toNatClampNeg = nI w := by rw [nI_clamp (by omega)]; exact hS j w hj
            refine br_f (nI_pos (by omega)) (br_t (nI_lt hjl (by omega)) ⟨hin, by decide, ?_⟩)
            refine nm_r (e' := upd h 0 (nI (w % 32))) (by dsimp only; rw [en, e0]) ⟨hin, by decide, by decide, ?_⟩
            refine nm_r (e' := upd (upd h 0 (nI (w % 32))) 1 (nI (w % 1024 / 32))) (by dsimp only; rw [en, e1']) ⟨hin, by decide, ?_⟩
            refine nm_r (e' := upd (upd (upd h 0 (nI (w % 32))) 1 (nI (w % 1024 / 32))) 2 (nI (w / 1024))) (by dsimp only; rw [en, e2]) ?_
            refine hy_won Hn hg hdec.1 hdec.2.1 hdec.2.2.1 (fun cn fd xs ys zs wn vl tk lm nb => ?_)
            exact ⟨rfl, w % 32, w % 1024 / 32, w / 1024, hdec.1, hdec.2.1, hdec.2.2.1, Hn, rfl⟩
          refine hx_now Hn hg hdec.1 hdec.2.1 hdec.2.2.1 ?_
          cases e : hg_Wn g (w % 32) (w % 1024 / 32) (w / 1024)
          · rw [e] at hY
            exact br_t rfl hY
          · rw [e] at hY
            exact br_f (by decide) hY
        · refine br_t rfl ?_
          unfold wpY_play
          dsimp only
          refine hy_good hg (br_t rfl (br_f g3 (br_f g6 ?_)))
          refine hy_search H hg hx hy hz (fun cn xs ys zs wn vl tk lm nb S hS hs hP => ?_)
          have eS : S = T := hg_sort_eq (hP.trans hT) hs hTs
          subst eS
          by_cases h1 : v2 < 0
          · exact br_t h1 ⟨rfl, x, y, z, hx, hy, hz, H, rfl⟩
          · obtain ⟨j, hj, rfl⟩ := nI_of h1
            have hjl : ¬ j < S.length := fun hlt => hn j hlt rfl
            exact br_f h1 (br_f (nI_nlt (by omega) (by omega)) ⟨rfl, x, y, z, hx, hy, hz, H, rfl⟩)
