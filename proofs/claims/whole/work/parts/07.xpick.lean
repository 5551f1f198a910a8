theorem hg_filter_le {α : Type} (q : α → Bool) (P : List α) : (P.filter q).length ≤ P.length := List.length_filter_le q P
theorem hx_win9 {post : SX → Prop} {g : Int32} {h : Nat → Int32} {N : Nat} (q : Nat → Bool) (hN : N ≤ 720) : ∀ (R P : List Nat) (a : Nat → Int32), (∀ v, v ∈ R → ∀ (a : Nat → Int32) (post' : Int32 → Prop), post' (hg_bI (!q v)) → wpX_isWonAfter post' (nI N, h, a) g (nI v)) → P.length + R.length = N → hg_H a (P.filter q) → (∀ i v, R[i]? = some v → a (P.length + i) = nI v) → (∀ a', hg_H a' ((P ++ R).filter q) → post (nI ((P ++ R).filter q).length, h, a')) → wX_listWinningMoves_9 post g (nI N) (R.length + 1) (nI (P.filter q).length) (nI P.length) h a
  | [], P, a, hA, hl, hH, hR, hp => by
    have hl' : P.length = N := hl
    have hle : nI N ≤ nI P.length := nI_le (by omega) (by omega)
    rw [List.append_nil] at hp
    exact br_t hle (hp a hH)
  | v :: R, P, a, hA, hl, hH, hR, hp => by
    have hl' : P.length + (R.length + 1) = N := hl
    have hle : ¬ nI N ≤ nI P.length := nI_ge (by omega) (by omega)
    have hf := hg_filter_le q P
    have hv : a P.length = nI v := hR 0 v rfl
    have hin : vp_in (nI P.length) 720 := vp_in_nI (by omega) (by decide)
    have hR' : ∀ (a' : Nat → Int32), (∀ i, P.length < i → a' i = a i) → ∀ i w, R[i]? = some w → a' ((P ++ [v]).length + i) = nI w := by
      intro a' ha' i w hw
      rw [List.length_append]
      show a' (P.length + 1 + i) = nI w
      rw [ha' _ (by omega)]
      have := hR (i + 1) w hw
      rw [show P.length + 1 + i = P.length + (i + 1) from by omega]
      exact this
    have hp' : ∀ a', hg_H a' ((P ++ [v] ++ R).filter q) → post (nI ((P ++ [v] ++ R).filter q).length, h, a') := by
      intro a' H'
      rw [List.append_assoc] at H' ⊢
      exact hp a' H'
    have hl2 : (P ++ [v]).length + R.length = N := by
      rw [List.length_append]
      show P.length + 1 + R.length = N
      omega
    refine br_f hle ⟨hin, ?_⟩
    rw [nI_clamp (n := P.length) (by omega), hv]
    refine hA v List.mem_cons_self a _ ?_
    cases e : q v
    · refine br_f (by decide) ?_
      refine nm_r (nI_1 _) ?_
      have ef : (P ++ [v]).filter q = P.filter q := by
        rw [List.filter_append, List.filter_cons_of_neg (by rw [e]; decide)]
        exact List.append_nil _
      have ih := hx_win9 (post := post) (g := g) (h := h) q hN R (P ++ [v]) a (fun w hw => hA w (List.mem_cons_of_mem _ hw)) hl2 (by rw [ef]; exact hH) (hR' a (fun _ _ => rfl)) hp'
      rw [ef, List.length_append] at ih
      exact ih
    · refine br_t rfl ⟨hin, vp_in_nI (by omega) (by decide), ?_⟩
      have ef : (P ++ [v]).filter q = P.filter q ++ [v] := by
        rw [List.filter_append, List.filter_cons_of_pos e]
        rfl
      refine nm_r (e' := upd a (P.filter q).length (nI v)) (by rw [nI_clamp (by omega)]) ?_
      refine nm_r (nI_1 _) (nm_r (nI_1 _) ?_)
      have ih := hx_win9 (post := post) (g := g) (h := h) q hN R (P ++ [v]) (upd a (P.filter q).length (nI v)) (fun w hw => hA w (List.mem_cons_of_mem _ hw)) hl2 (by rw [ef]; exact hg_H_app hH v) (hR' _ (fun i hi => hg_upd_ne (by omega))) hp'
      rw [ef, List.length_append, List.length_append] at ih
      exact ih
theorem hg_XN_bd {g x y z v : Nat} (hx : x ≤ 15) (hy : y ≤ 15) (hz : z ≤ 15) (h : v ∈ hg_XN g x y z) : v < 32768 ∧ (g = 6 → v ≤ hg_pl x y) := by
  by_cases h6 : g = 6
  · subst h6
    have h' : v ∈ hg_N6 (hg_pl x y) z := h
    have := hg_mem6.mp h'
    exact ⟨by omega, fun _ => by omega⟩
  · rw [hg_XN_6 h6] at h
    obtain ⟨q, hq, rfl⟩ := List.mem_map.mp h
    have := hg_bd hx hy hz hq
    refine ⟨?_, fun e => absurd e h6⟩
    unfold hg_num
    omega
theorem hg_XN_len {g x y z : Nat} (hx : x ≤ 15) (hy : y ≤ 15) (hz : z ≤ 15) : (hg_XN g x y z).length ≤ 720 := by
  by_cases h6 : g = 6
  · subst h6
    show (hg_N6 (hg_pl x y) z).length ≤ 720
    unfold hg_N6
    rw [List.length_map, List.length_range]
    omega
  · rw [hg_XN_6 h6, List.length_map]
    by_cases h2 : g = 2
    · subst h2
      have b1 : x * (y + z) ≤ 15 * 30 := Nat.mul_le_mul hx (by omega)
      have b2 : y * z ≤ 15 * 15 := Nat.mul_le_mul hy hz
      rw [hg_LX_2 hx hy hz, List.length_append, List.length_append, hg_L3_len, hg_flen (hg_G1_len x y z), hg_flen (hg_G2_len x y z)]
      omega
    · by_cases h3 : g = 3
      · subst h3
        show (hg_run x (fun k => (x - (k + 1), y, z)) ++ hg_run y (fun k => (x + (k + 1), y - (k + 1), z)) ++ hg_run z (fun k => (x, y + (k + 1), z - (k + 1)))).length ≤ 720
        rw [List.length_append, List.length_append, hg_run_len, hg_run_len, hg_run_len]
        omega
      · by_cases h4 : g = 4
        · subst h4
          show (hg_run x (fun k => (x - (k + 1), y, z)) ++ hg_run y (fun k => (x, y - (k + 1), z)) ++ hg_run (min x y) (fun k => (x - (k + 1), y - (k + 1), z))).length ≤ 720
          rw [List.length_append, List.length_append, hg_run_len, hg_run_len, hg_run_len]
          omega
        · by_cases h5 : g = 5
          · subst h5
            have d1 : x / y ≤ x := Nat.div_le_self x y
            have d2 : y / x ≤ y := Nat.div_le_self y x
            show (if x = 0 ∨ y = 0 then [] else hg_run (x / y) (fun k => (x - (k + 1) * y, y, z)) ++ hg_run (y / x) (fun k => (x, y - (k + 1) * x, z))).length ≤ 720
            by_cases h0 : x = 0 ∨ y = 0
            · rw [if_pos h0]
              exact Nat.zero_le _
            · rw [if_neg h0, List.length_append, hg_run_len, hg_run_len]
              omega
          · rw [hg_LX_1 h2 h3 h4 h5, hg_L3_len]
            omega
/-- the numbers of the winning moves, as X lists them -/
def hg_XF (g x y z : Nat) : List Nat := (hg_XN g x y z).filter (fun v => !hg_PA g x y v)
theorem hx_win {post : SX → Prop} {l : Int32} {h a : Nat → Int32} {g x y z : Nat} (H : hg_Hp h x y z) (hg : g < 8) (hx : x ≤ 15) (hy : y ≤ 15) (hz : z ≤ 15) (hp : ∀ a', hg_H a' (hg_XF g x y z) → post (nI (hg_XF g x y z).length, h, a')) : wpX_listWinningMoves post (l, h, a) (nI g) := by
  unfold wpX_listWinningMoves
  dsimp only
  refine hx_moves H hg hx hy hz (fun a1 H1 => ?_)
  refine ⟨(hg_XN g x y z).length + 1, ?_⟩
  refine hx_win9 (post := post) (fun v => !hg_PA g x y v) (hg_XN_len hx hy hz) (hg_XN g x y z) [] a1 ?_ (Nat.zero_add _) (hg_H_0 _) ?_ hp
  · intro v hv a2 post' h2
    have hb := hg_XN_bd hx hy hz hv
    rw [Bool.not_not] at h2
    exact hx_after H hg hx hy hz hb.1 hb.2 h2
  · intro i v hv
    rw [show ([] : List Nat).length + i = i from Nat.zero_add i]
    exact H1 i v hv
theorem hx_in15 {post : Int32 → Prop} {J : Int32 → Prop} {x1 : Int32} {h a : Nat → Int32} {F : List Nat} {k v : Nat} (hk : F[k]? = some v) (hH : hg_H a F) (hl : F.length ≤ 720) (hb : ∀ w, w ∈ F → w < 32768) (h1 : nI (F.countP (fun w => decide (w < v))) = x1 → post (nI v)) (h2 : ¬ nI (F.countP (fun w => decide (w < v))) = x1 → J (nI (k + 1))) : ∀ (R P : List Nat), P ++ R = F → wX_listedAbove_15 post J x1 (nI k) (nI F.length) h a (R.length + 1) (nI (P.countP (fun w => decide (w < v)))) (nI P.length)
  | [], P, e => by
    rw [List.append_nil] at e
    subst e
    have hkl : k < P.length := (List.getElem?_eq_some_iff.mp hk).1
    refine br_t (nI_le (Nat.le_refl _) (by omega)) ?_
    refine br_c (fun e => ⟨vp_in_nI (by omega) (by decide), ?_⟩) (fun e => nm_r (nI_1 _) (h2 e))
    rw [nI_clamp (by omega), hH k v hk]
    exact h1 e
  | w :: R, P, e => by
    have hkl : k < F.length := (List.getElem?_eq_some_iff.mp hk).1
    have hvF : v ∈ F := List.mem_of_getElem? hk
    have hlen : P.length + (R.length + 1) = F.length := by
      rw [← e, List.length_append]
      rfl
    have hw : F[P.length]? = some w := by
      rw [← e, List.getElem?_append_right (Nat.le_refl _), Nat.sub_self]
      rfl
    have hwF : w ∈ F := List.mem_of_getElem? hw
    have b1 := hb v hvF
    have b2 := hb w hwF
    have e' : P ++ [w] ++ R = F := by rw [List.append_assoc]; exact e
    have ih := hx_in15 (post := post) (J := J) (h := h) hk hH hl hb h1 h2 R (P ++ [w]) e'
    rw [List.countP_append, List.length_append] at ih
    refine br_f (nI_ge (by omega) (by omega)) ⟨vp_in_nI (by omega) (by decide), vp_in_nI (by omega) (by decide), ?_⟩
    rw [nI_clamp (by omega), nI_clamp (by omega), hH k v hk, hH P.length w hw]
    refine pk_le v w (fun hl => ?_) (fun hl => ?_)
    · refine nm_r (nI_1 _) ?_
      have e2 : [w].countP (fun w => decide (w < v)) = 0 := by
        rw [List.countP_cons_of_neg (by rw [decide_eq_true_eq]; omega)]
        rfl
      rw [e2] at ih
      exact ih
    · refine nm_r (nI_1 _) (nm_r (nI_1 _) ?_)
      have e2 : [w].countP (fun w => decide (w < v)) = 1 := by
        rw [List.countP_cons_of_pos (by rw [decide_eq_true_eq]; omega)]
        rfl
      rw [e2] at ih
      exact ih
theorem hx_ab2 {post : Int32 → Prop} {x1 : Int32} {h a : Nat → Int32} {F : List Nat} (hH : hg_H a F) (hl : F.length ≤ 720) (hb : ∀ w, w ∈ F → w < 32768) (h1 : ∀ (k v : Nat), F[k]? = some v → nI (F.countP (fun w => decide (w < v))) = x1 → post (nI v)) (h2 : (∀ (k v : Nat), F[k]? = some v → ¬ nI (F.countP (fun w => decide (w < v))) = x1) → post (-4)) : ∀ (d k : Nat), k + d = F.length → (∀ (k' v : Nat), k' < k → F[k']? = some v → ¬ nI (F.countP (fun w => decide (w < v))) = x1) → wX_listedAbove_2 post x1 (nI F.length) h a (d + 1) (nI k)
  | 0, k, hk, hn => by
    refine br_t (nI_le (by omega) (by omega)) (h2 (fun k' v hv => ?_))
    have hkl : k' < F.length := (List.getElem?_eq_some_iff.mp hv).1
    exact hn k' v (by omega) hv
  | d + 1, k, hk, hn => by
    refine br_f (nI_ge (by omega) (by omega)) ⟨F.length + 1, ?_⟩
    have hkl : k < F.length := by omega
    have hv : F[k]? = some F[k] := List.getElem?_eq_getElem hkl
    refine hx_in15 hv hH hl hb (h1 k _ hv) (fun hne => ?_) F [] rfl
    refine hx_ab2 hH hl hb h1 h2 d (k + 1) (by omega) (fun k' v hk' hv' => ?_)
    by_cases e : k' = k
    · subst e
      rw [hv] at hv'
      have := Option.some.inj hv'
      rw [← this]
      exact hne
    · exact hn k' v (by omega) hv'
/-- listedAbove, against the sorted list S -/
theorem hx_above {post : Int32 → Prop} {x1 : Int32} {h a : Nat → Int32} {F S : List Nat} (hH : hg_H a F) (hl : F.length ≤ 720) (hb : ∀ w, w ∈ F → w < 32768) (hS : List.Perm F S) (hs : S.Pairwise (· < ·)) (h1 : ∀ (j v : Nat), S[j]? = some v → x1 = nI j → post (nI v)) (h2 : (∀ j, j < S.length → ¬ x1 = nI j) → post (-4)) : wpX_listedAbove post (nI F.length, h, a) x1 := by
  refine ⟨F.length + 1, ?_⟩
  refine hx_ab2 hH hl hb (fun k v hv e => ?_) (fun hn => ?_) F.length 0 (Nat.zero_add _) (fun k' v hk' _ => absurd hk' (by omega))
  · obtain ⟨j, hj, e2⟩ := hg_pick hS hs (List.mem_of_getElem? hv)
    rw [e2] at e
    exact h1 j v hj e.symm
  · refine h2 (fun j hj e => ?_)
    have hv : S[j]? = some S[j] := List.getElem?_eq_getElem hj
    have hm : S[j] ∈ F := hS.mem_iff.mpr (List.mem_of_getElem? hv)
    obtain ⟨k, hk⟩ := List.getElem?_of_mem hm
    obtain ⟨j', hj', e2⟩ := hg_pick hS hs hm
    have e3 : S.countP (fun w => decide (w < S[j])) = j := hg_cnt S hs j _ hv
    refine hn k _ hk ?_
    rw [hS.countP_eq, e3, e]
