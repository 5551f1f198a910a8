theorem hg_o_len (c : Prop) [Decidable c] (p : hg_T) : (hg_o c p).length ≤ 1 := by
  unfold hg_o
  by_cases h : c
  · rw [if_pos h]; exact Nat.le_refl 1
  · rw [if_neg h]; exact Nat.zero_le 1
theorem hg_two_len (x y z k m : Nat) : (hg_two x y z k m).length ≤ 3 := by
  unfold hg_two
  rw [List.length_append, List.length_append]
  have h1 := hg_o_len (k + 1 ≤ x ∧ m + 1 ≤ y) (x - (k + 1), y - (m + 1), z)
  have h2 := hg_o_len (k + 1 ≤ x ∧ m + 1 ≤ z) (x - (k + 1), y, z - (m + 1))
  have h3 := hg_o_len (k + 1 ≤ y ∧ m + 1 ≤ z) (x, y - (k + 1), z - (m + 1))
  omega
theorem hg_flen_le {n b : Nat} {f : Nat → List hg_T} (h : ∀ k, (f k).length ≤ b) : ((List.range n).flatMap f).length ≤ n * b := by
  induction n with
  | zero => exact Nat.zero_le _
  | succ n ih =>
    have := h n
    rw [List.range_succ, List.flatMap_append, List.flatMap_singleton, List.length_append, Nat.succ_mul]
    omega
theorem hg_stp_len (g x y z k : Nat) : (hg_stp g x y z k).length ≤ 48 := by
  unfold hg_stp
  rw [List.length_append, List.length_append, List.length_append]
  have h1 := hg_o_len (k + 1 ≤ x) (x - (k + 1), y, z)
  have h2 := hg_o_len (k + 1 ≤ y) (x, y - (k + 1), z)
  have h3 := hg_o_len (k + 1 ≤ z) (x, y, z - (k + 1))
  have h4 : (if g = 2 then (List.range 15).flatMap (hg_two x y z k) else []).length ≤ 45 := by
    by_cases e : g = 2
    · rw [if_pos e]; exact hg_flen_le (n := 15) (b := 3) (hg_two_len x y z k)
    · rw [if_neg e]; exact Nat.zero_le _
  omega
theorem hy_loop (W : Nat → Int32 → Int32 → (Nat → Int32) → (Nat → Int32) → (Nat → Int32) → Prop) (E : Int32 → (Nat → Int32) → (Nat → Int32) → (Nat → Int32) → Prop) (N B : Nat) (c : Nat → Int32) (S : Nat → List hg_T) (hB : ∀ k, k < N → (S k).length ≤ B)
    (hx : ∀ n cn xs ys zs, E cn xs ys zs → W (n + 1) (c N) cn xs ys zs)
    (hs : ∀ n k L xs ys zs, k < N → L.length + B ≤ 800 → hg_H3 xs ys zs L → (∀ xs' ys' zs', hg_H3 xs' ys' zs' (L ++ S k) → W n (c (k + 1)) (nI (L ++ S k).length) xs' ys' zs') → W (n + 1) (c k) (nI L.length) xs ys zs) :
    ∀ (d k : Nat) (L : List hg_T) (xs ys zs : Nat → Int32), k + d = N → hg_H3 xs ys zs L → L.length + d * B ≤ 800 → (∀ xs' ys' zs', hg_H3 xs' ys' zs' (L ++ (List.range' k d).flatMap S) → E (nI (L ++ (List.range' k d).flatMap S).length) xs' ys' zs') → W (d + 1) (c k) (nI L.length) xs ys zs
  | 0, k, L, xs, ys, zs, hk, hH, hl, hE => by
    have e : k = N := by omega
    subst e
    have e2 : L ++ (List.range' k 0).flatMap S = L := List.append_nil L
    rw [e2] at hE
    exact hx 0 _ _ _ _ (hE xs ys zs hH)
  | d + 1, k, L, xs, ys, zs, hk, hH, hl, hE => by
    rw [Nat.succ_mul] at hl
    have hb := hB k (by omega)
    have e2 : L ++ (List.range' k (d + 1)).flatMap S = L ++ S k ++ (List.range' (k + 1) d).flatMap S := by
      rw [List.range'_succ, List.flatMap_cons, List.append_assoc]
    rw [e2] at hE
    refine hs (d + 1) k L xs ys zs (by omega) (by omega) hH (fun xs' ys' zs' H' => ?_)
    exact hy_loop W E N B c S hB hx hs d (k + 1) (L ++ S k) xs' ys' zs' (by omega) H' (by rw [List.length_append]; omega) hE
theorem hy_loop0 (W : Nat → Int32 → Int32 → (Nat → Int32) → (Nat → Int32) → (Nat → Int32) → Prop) (E : Int32 → (Nat → Int32) → (Nat → Int32) → (Nat → Int32) → Prop) (N B : Nat) (c : Nat → Int32) (S : Nat → List hg_T) (hB : ∀ k, k < N → (S k).length ≤ B)
    (hx : ∀ n cn xs ys zs, E cn xs ys zs → W (n + 1) (c N) cn xs ys zs)
    (hs : ∀ n k L xs ys zs, k < N → L.length + B ≤ 800 → hg_H3 xs ys zs L → (∀ xs' ys' zs', hg_H3 xs' ys' zs' (L ++ S k) → W n (c (k + 1)) (nI (L ++ S k).length) xs' ys' zs') → W (n + 1) (c k) (nI L.length) xs ys zs)
    (L : List hg_T) (xs ys zs : Nat → Int32) (hH : hg_H3 xs ys zs L) (hl : L.length + N * B ≤ 800) (hE : ∀ xs' ys' zs', hg_H3 xs' ys' zs' (L ++ (List.range N).flatMap S) → E (nI (L ++ (List.range N).flatMap S).length) xs' ys' zs') : ∃ n, W n (c 0) (nI L.length) xs ys zs := by
  rw [List.range_eq_range'] at hE
  exact ⟨N + 1, hy_loop W E N B c S hB hx hs N 0 L xs ys zs (by omega) hH hl hE⟩
theorem hy_loop1 (W : Nat → Int32 → Int32 → (Nat → Int32) → (Nat → Int32) → (Nat → Int32) → Prop) (E : Int32 → (Nat → Int32) → (Nat → Int32) → (Nat → Int32) → Prop) (N : Nat) (f : Nat → hg_T)
    (hx : ∀ n cn xs ys zs, E cn xs ys zs → W (n + 1) (nI (N + 1)) cn xs ys zs)
    (hs : ∀ n k L xs ys zs, k < N → L.length + 1 ≤ 800 → hg_H3 xs ys zs L → (∀ xs' ys' zs', hg_H3 xs' ys' zs' (L ++ [f k]) → W n (nI (k + 1 + 1)) (nI (L ++ [f k]).length) xs' ys' zs') → W (n + 1) (nI (k + 1)) (nI L.length) xs ys zs)
    (L : List hg_T) (xs ys zs : Nat → Int32) (hH : hg_H3 xs ys zs L) (hl : L.length + N ≤ 800) (hE : ∀ xs' ys' zs', hg_H3 xs' ys' zs' (L ++ hg_run N f) → E (nI (L ++ hg_run N f).length) xs' ys' zs') : ∃ n, W n 1 (nI L.length) xs ys zs := by
  have e : hg_run N f = (List.range N).flatMap (fun k => [f k]) := (hg_fs f _).symm
  rw [e] at hE
  exact hy_loop0 W E N 1 (fun k => nI (k + 1)) (fun k => [f k]) (fun _ _ => Nat.le_refl 1) hx hs L xs ys zs hH (by omega) hE
section
variable {fd : Int32} {h wn vl tk lm nb : Nat → Int32}
theorem hy_leave {post : SY → Prop} {cn A B C : Int32} {xs ys zs : Nat → Int32} (L : List hg_T) (q : hg_T) (hc : cn = nI L.length) (hH : hg_H3 xs ys zs L) (hl : L.length < 800) (eA : A = nI q.1) (eB : B = nI q.2.1) (eC : C = nI q.2.2) (hp : ∀ xs' ys' zs', hg_H3 xs' ys' zs' (L ++ [q]) → post (nI (L ++ [q]).length, fd, h, xs', ys', zs', wn, vl, tk, lm, nb)) : wpY_leave post (cn, fd, h, xs, ys, zs, wn, vl, tk, lm, nb) A B C := by
  subst hc eA eB eC
  have hin : vp_in (nI L.length) 800 := vp_in_nI hl (by decide)
  have ec : (nI L.length).toNatClampNeg = L.length := nI_clamp (by omega)
  refine ⟨hin, nm_e ⟨hin, nm_e ⟨hin, nm_e (nm_r (nI_1 _) ?_)⟩⟩⟩
  rw [ec]
  have := hp _ _ _ (hg_H3_app hH q)
  rw [List.length_append] at this
  exact this
theorem hy_pushes {post : SY → Prop} {xs ys zs : Nat → Int32} {x y z : Nat} (hx : x ≤ 45) (hy : y ≤ 30) (hz : z ≤ 15) (hp : ∀ xs' ys' zs', hg_H3 xs' ys' zs' (hg_LY 3 x y z) → post (nI (hg_LY 3 x y z).length, fd, h, xs', ys', zs', wn, vl, tk, lm, nb)) : wpY_listPushes post (0, fd, h, xs, ys, zs, wn, vl, tk, lm, nb) (nI x) (nI y) (nI z) := by
  have l3 := hy_loop1 (fun n k cn xs ys zs => wY_listPushes_3 post (nI x) (nI y) (nI z) n k cn fd h xs ys zs wn vl tk lm nb) (fun cn xs ys zs => ∃ n31 : Nat, wY_listPushes_31 post (nI x) (nI y) (nI z) n31 1 cn fd h xs ys zs wn vl tk lm nb) z (fun k => (x, y + (k + 1), z - (k + 1)))
    (fun n cn xs ys zs e => br_t (nI_lt (by omega) (by omega)) e)
    (fun n k L xs ys zs hk hl hH hn => br_f (nI_nlt (by omega) (by omega)) (hy_leave L (x, y + (k + 1), z - (k + 1)) rfl hH (by omega) rfl (nI_add _ _) (pk_sub (by omega)) (fun xs' ys' zs' H' => nm_r (nI_1 _) (hn xs' ys' zs' H'))))
    [] xs ys zs (hg_H3_0 _ _ _) (by show 0 + _ ≤ 800; omega)
  refine l3 (fun xs ys zs hH => ?_)
  rw [List.nil_append] at hH ⊢
  have l31 := hy_loop1 (fun n k cn xs ys zs => wY_listPushes_31 post (nI x) (nI y) (nI z) n k cn fd h xs ys zs wn vl tk lm nb) (fun cn xs ys zs => ∃ n59 : Nat, wY_listPushes_59 post (nI x) (nI y) (nI z) n59 1 cn fd h xs ys zs wn vl tk lm nb) y (fun k => (x + (k + 1), y - (k + 1), z))
    (fun n cn xs ys zs e => br_t (nI_lt (by omega) (by omega)) e)
    (fun n k L xs ys zs hk hl hH hn => br_f (nI_nlt (by omega) (by omega)) (hy_leave L (x + (k + 1), y - (k + 1), z) rfl hH (by omega) (nI_add _ _) (pk_sub (by omega)) rfl (fun xs' ys' zs' H' => nm_r (nI_1 _) (hn xs' ys' zs' H'))))
    (hg_run z (fun k => (x, y + (k + 1), z - (k + 1)))) xs ys zs hH (by rw [hg_run_len]; omega)
  refine l31 (fun xs ys zs hH => ?_)
  have l59 := hy_loop1 (fun n k cn xs ys zs => wY_listPushes_59 post (nI x) (nI y) (nI z) n k cn fd h xs ys zs wn vl tk lm nb) (fun cn xs ys zs => post (cn, fd, h, xs, ys, zs, wn, vl, tk, lm, nb)) x (fun k => (x - (k + 1), y, z))
    (fun n cn xs ys zs e => br_t (nI_lt (by omega) (by omega)) e)
    (fun n k L xs ys zs hk hl hH hn => br_f (nI_nlt (by omega) (by omega)) (hy_leave L (x - (k + 1), y, z) rfl hH (by omega) (pk_sub (by omega)) rfl rfl (fun xs' ys' zs' H' => nm_r (nI_1 _) (hn xs' ys' zs' H'))))
    (hg_run z (fun k => (x, y + (k + 1), z - (k + 1))) ++ hg_run y (fun k => (x + (k + 1), y - (k + 1), z))) xs ys zs hH (by rw [List.length_append, hg_run_len, hg_run_len]; omega)
  exact l59 hp
theorem hy_equal {post : SY → Prop} {xs ys zs : Nat → Int32} {x y z : Nat} (hx : x ≤ 45) (hy : y ≤ 30) (hz : z ≤ 15) (hp : ∀ xs' ys' zs', hg_H3 xs' ys' zs' (hg_LY 4 x y z) → post (nI (hg_LY 4 x y z).length, fd, h, xs', ys', zs', wn, vl, tk, lm, nb)) : wpY_listEqual post (0, fd, h, xs, ys, zs, wn, vl, tk, lm, nb) (nI x) (nI y) (nI z) := by
  have l3 := hy_loop1 (fun n k cn xs ys zs => wY_listEqual_3 post (nI x) (nI y) (nI z) n k cn fd h xs ys zs wn vl tk lm nb) (fun cn xs ys zs => ∃ n28 : Nat, wY_listEqual_28 post (nI x) (nI y) (nI z) n28 1 cn fd h xs ys zs wn vl tk lm nb) x (fun k => (x - (k + 1), y, z))
    (fun n cn xs ys zs e => br_t (nI_lt (by omega) (by omega)) e)
    (fun n k L xs ys zs hk hl hH hn => br_f (nI_nlt (by omega) (by omega)) (hy_leave L (x - (k + 1), y, z) rfl hH (by omega) (pk_sub (by omega)) rfl rfl (fun xs' ys' zs' H' => nm_r (nI_1 _) (hn xs' ys' zs' H'))))
    [] xs ys zs (hg_H3_0 _ _ _) (by show 0 + _ ≤ 800; omega)
  refine l3 (fun xs ys zs hH => ?_)
  rw [List.nil_append] at hH ⊢
  have l28 := hy_loop1 (fun n k cn xs ys zs => wY_listEqual_28 post (nI x) (nI y) (nI z) n k cn fd h xs ys zs wn vl tk lm nb) (fun cn xs ys zs => ∃ n53 : Nat, wY_listEqual_53 post (nI x) (nI y) (nI z) n53 1 cn fd h xs ys zs wn vl tk lm nb) y (fun k => (x, y - (k + 1), z))
    (fun n cn xs ys zs e => br_t (nI_lt (by omega) (by omega)) e)
    (fun n k L xs ys zs hk hl hH hn => br_f (nI_nlt (by omega) (by omega)) (hy_leave L (x, y - (k + 1), z) rfl hH (by omega) rfl (pk_sub (by omega)) rfl (fun xs' ys' zs' H' => nm_r (nI_1 _) (hn xs' ys' zs' H'))))
    (hg_run x (fun k => (x - (k + 1), y, z))) xs ys zs hH (by rw [hg_run_len]; omega)
  refine l28 (fun xs ys zs hH => ?_)
  have l53 := hy_loop1 (fun n k cn xs ys zs => wY_listEqual_53 post (nI x) (nI y) (nI z) n k cn fd h xs ys zs wn vl tk lm nb) (fun cn xs ys zs => post (cn, fd, h, xs, ys, zs, wn, vl, tk, lm, nb)) (min x y) (fun k => (x - (k + 1), y - (k + 1), z))
    (fun n cn xs ys zs e => pk_lt x (min x y + 1) (fun _ => e) (fun h1 => br_t (nI_lt (by omega) (by omega)) e))
    (fun n k L xs ys zs hk hl hH hn => br_f (nI_nlt (by omega) (by omega)) (br_f (nI_nlt (by omega) (by omega)) (hy_leave L (x - (k + 1), y - (k + 1), z) rfl hH (by omega) (pk_sub (by omega)) (pk_sub (by omega)) rfl (fun xs' ys' zs' H' => nm_r (nI_1 _) (hn xs' ys' zs' H')))))
    (hg_run x (fun k => (x - (k + 1), y, z)) ++ hg_run y (fun k => (x, y - (k + 1), z))) xs ys zs hH (by rw [List.length_append, hg_run_len, hg_run_len]; omega)
  exact l53 hp
theorem hy_144 {post : SY → Prop} {J17 J79 : Int32 → Int32 → Int32 → (Nat → Int32) → (Nat → Int32) → (Nat → Int32) → (Nat → Int32) → (Nat → Int32) → (Nat → Int32) → (Nat → Int32) → (Nat → Int32) → (Nat → Int32) → Prop} {x1 x5 : Int32} {x y z k m : Nat} (hx : x ≤ 45) (hy : y ≤ 30) (hz : z ≤ 15) (hk : k < 15) (hm : m < 15) (L : List hg_T) {xs ys zs : Nat → Int32} (hH : hg_H3 xs ys zs L) (hl : L.length < 800)
    (hC : ∀ xs' ys' zs', hg_H3 xs' ys' zs' (L ++ hg_o (k + 1 ≤ y ∧ m + 1 ≤ z) (x, y - (k + 1), z - (m + 1))) → J79 (nI (m + 1 + 1)) (nI (L ++ hg_o (k + 1 ≤ y ∧ m + 1 ≤ z) (x, y - (k + 1), z - (m + 1))).length) fd h xs' ys' zs' wn vl tk lm nb) :
    wY_listSingles_144 post J17 J79 x1 (nI x) (nI y) (nI z) x5 (nI (k + 1)) (nI (m + 1)) (nI L.length) fd h xs ys zs wn vl tk lm nb := by
  refine pk_lt y (k + 1) (fun h1 => nm_r (nI_1 _) ?_) (fun h1 => pk_lt z (m + 1) (fun h2 => nm_r (nI_1 _) ?_) (fun h2 => ?_))
  · have e : hg_o (k + 1 ≤ y ∧ m + 1 ≤ z) (x, y - (k + 1), z - (m + 1)) = [] := if_neg (by omega)
    rw [e, List.append_nil] at hC
    exact hC xs ys zs hH
  · have e : hg_o (k + 1 ≤ y ∧ m + 1 ≤ z) (x, y - (k + 1), z - (m + 1)) = [] := if_neg (by omega)
    rw [e, List.append_nil] at hC
    exact hC xs ys zs hH
  · have e : hg_o (k + 1 ≤ y ∧ m + 1 ≤ z) (x, y - (k + 1), z - (m + 1)) = [(x, y - (k + 1), z - (m + 1))] := if_pos ⟨h1, h2⟩
    rw [e] at hC
    exact hy_leave L (x, y - (k + 1), z - (m + 1)) rfl hH hl rfl (pk_sub h1) (pk_sub h2) (fun xs' ys' zs' H' => nm_r (nI_1 _) (hC xs' ys' zs' H'))
theorem hy_117 {post : SY → Prop} {J17 J79 : Int32 → Int32 → Int32 → (Nat → Int32) → (Nat → Int32) → (Nat → Int32) → (Nat → Int32) → (Nat → Int32) → (Nat → Int32) → (Nat → Int32) → (Nat → Int32) → (Nat → Int32) → Prop} {x1 x5 : Int32} {x y z k m : Nat} (hx : x ≤ 45) (hy : y ≤ 30) (hz : z ≤ 15) (hk : k < 15) (hm : m < 15) (L : List hg_T) {xs ys zs : Nat → Int32} (hH : hg_H3 xs ys zs L) (hl : L.length + 1 < 800)
    (hC : ∀ xs' ys' zs', hg_H3 xs' ys' zs' (L ++ hg_o (k + 1 ≤ x ∧ m + 1 ≤ z) (x - (k + 1), y, z - (m + 1)) ++ hg_o (k + 1 ≤ y ∧ m + 1 ≤ z) (x, y - (k + 1), z - (m + 1))) → J79 (nI (m + 1 + 1)) (nI (L ++ hg_o (k + 1 ≤ x ∧ m + 1 ≤ z) (x - (k + 1), y, z - (m + 1)) ++ hg_o (k + 1 ≤ y ∧ m + 1 ≤ z) (x, y - (k + 1), z - (m + 1))).length) fd h xs' ys' zs' wn vl tk lm nb) :
    wY_listSingles_117 post J17 J79 x1 (nI x) (nI y) (nI z) x5 (nI (k + 1)) (nI (m + 1)) (nI L.length) fd h xs ys zs wn vl tk lm nb := by
  refine pk_lt x (k + 1) (fun h1 => ?_) (fun h1 => pk_lt z (m + 1) (fun h2 => ?_) (fun h2 => ?_))
  · have e : hg_o (k + 1 ≤ x ∧ m + 1 ≤ z) (x - (k + 1), y, z - (m + 1)) = [] := if_neg (by omega)
    rw [e, List.append_nil] at hC
    exact hy_144 hx hy hz hk hm L hH (by omega) hC
  · have e : hg_o (k + 1 ≤ x ∧ m + 1 ≤ z) (x - (k + 1), y, z - (m + 1)) = [] := if_neg (by omega)
    rw [e, List.append_nil] at hC
    exact hy_144 hx hy hz hk hm L hH (by omega) hC
  · have e : hg_o (k + 1 ≤ x ∧ m + 1 ≤ z) (x - (k + 1), y, z - (m + 1)) = [(x - (k + 1), y, z - (m + 1))] := if_pos ⟨h1, h2⟩
    rw [e] at hC
    exact hy_leave L (x - (k + 1), y, z - (m + 1)) rfl hH (by omega) (pk_sub h1) rfl (pk_sub h2) (fun xs' ys' zs' H' => hy_144 hx hy hz hk hm (L ++ [(x - (k + 1), y, z - (m + 1))]) H' (by rw [List.length_append]; exact hl) hC)
theorem hy_79 {post : SY → Prop} {J17 : Int32 → Int32 → Int32 → (Nat → Int32) → (Nat → Int32) → (Nat → Int32) → (Nat → Int32) → (Nat → Int32) → (Nat → Int32) → (Nat → Int32) → (Nat → Int32) → (Nat → Int32) → Prop} {x5 : Int32} {g x y z k : Nat} (hg : g < 8) (hx : x ≤ 45) (hy : y ≤ 30) (hz : z ≤ 15) (hk : k < 15) (L : List hg_T) {xs ys zs : Nat → Int32} (hH : hg_H3 xs ys zs L) (hl : L.length + 45 ≤ 800)
    (hC : ∀ xs' ys' zs', hg_H3 xs' ys' zs' (L ++ (if g = 2 then (List.range 15).flatMap (hg_two x y z k) else [])) → J17 (nI (k + 1 + 1)) (nI (L ++ (if g = 2 then (List.range 15).flatMap (hg_two x y z k) else [])).length) fd h xs' ys' zs' wn vl tk lm nb) :
    ∃ n79 : Nat, wY_listSingles_79 post J17 (nI g) (nI x) (nI y) (nI z) x5 (nI (k + 1)) n79 1 (nI L.length) fd h xs ys zs wn vl tk lm nb := by
  by_cases h2 : g = 2
  · subst h2
    rw [if_pos rfl] at hC
    refine hy_loop0 (fun n m cn xs ys zs => wY_listSingles_79 post J17 (nI 2) (nI x) (nI y) (nI z) x5 (nI (k + 1)) n m cn fd h xs ys zs wn vl tk lm nb) (fun cn xs ys zs => J17 (nI (k + 1 + 1)) cn fd h xs ys zs wn vl tk lm nb) 15 3 (fun m => nI (m + 1)) (hg_two x y z k) (fun m _ => hg_two_len x y z k m) (fun n cn xs ys zs e => br_t (by decide) (nm_r (nI_1 _) e)) ?_ L xs ys zs hH (by omega) hC
    intro n m L xs ys zs hm hl hH hn
    have h15 : ¬ (15 : Int32) < nI (m + 1) := nI_nlt (a := 15) (by omega) (by omega)
    have eT : L ++ hg_two x y z k m = L ++ hg_o (k + 1 ≤ x ∧ m + 1 ≤ y) (x - (k + 1), y - (m + 1), z) ++ hg_o (k + 1 ≤ x ∧ m + 1 ≤ z) (x - (k + 1), y, z - (m + 1)) ++ hg_o (k + 1 ≤ y ∧ m + 1 ≤ z) (x, y - (k + 1), z - (m + 1)) := by
      unfold hg_two
      rw [List.append_assoc, List.append_assoc, List.append_assoc]
    rw [eT] at hn
    refine br_f h15 (br_t rfl (pk_lt x (k + 1) (fun h1 => ?_) (fun h1 => pk_lt y (m + 1) (fun h2 => ?_) (fun h2 => ?_))))
    · have e : hg_o (k + 1 ≤ x ∧ m + 1 ≤ y) (x - (k + 1), y - (m + 1), z) = [] := if_neg (by omega)
      rw [e, List.append_nil] at hn
      exact hy_117 hx hy hz hk hm L hH (by omega) hn
    · have e : hg_o (k + 1 ≤ x ∧ m + 1 ≤ y) (x - (k + 1), y - (m + 1), z) = [] := if_neg (by omega)
      rw [e, List.append_nil] at hn
      exact hy_117 hx hy hz hk hm L hH (by omega) hn
    · have e : hg_o (k + 1 ≤ x ∧ m + 1 ≤ y) (x - (k + 1), y - (m + 1), z) = [(x - (k + 1), y - (m + 1), z)] := if_pos ⟨h1, h2⟩
      rw [e] at hn
      exact hy_leave L (x - (k + 1), y - (m + 1), z) rfl hH (by omega) (pk_sub h1) (pk_sub h2) rfl (fun xs' ys' zs' H' => hy_117 hx hy hz hk hm (L ++ [(x - (k + 1), y - (m + 1), z)]) H' (by rw [List.length_append]; show L.length + 1 + 1 < 800; omega) hn)
  · rw [if_neg h2, List.append_nil] at hC
    have hne : ¬ nI g = 2 := fun e => h2 ((nI_eq (b := 2) (by omega) (by omega)).mp e)
    exact ⟨1, br_f (by decide) (br_f hne (nm_r (nI_1 _) (hC xs ys zs hH)))⟩
theorem hy_58 {post : SY → Prop} {J17 : Int32 → Int32 → Int32 → (Nat → Int32) → (Nat → Int32) → (Nat → Int32) → (Nat → Int32) → (Nat → Int32) → (Nat → Int32) → (Nat → Int32) → (Nat → Int32) → (Nat → Int32) → Prop} {x5 : Int32} {g x y z k : Nat} (hg : g < 8) (hx : x ≤ 45) (hy : y ≤ 30) (hz : z ≤ 15) (hk : k < 15) (L : List hg_T) {xs ys zs : Nat → Int32} (hH : hg_H3 xs ys zs L) (hl : L.length + 46 ≤ 800)
    (hC : ∀ xs' ys' zs', hg_H3 xs' ys' zs' (L ++ hg_o (k + 1 ≤ z) (x, y, z - (k + 1)) ++ (if g = 2 then (List.range 15).flatMap (hg_two x y z k) else [])) → J17 (nI (k + 1 + 1)) (nI (L ++ hg_o (k + 1 ≤ z) (x, y, z - (k + 1)) ++ (if g = 2 then (List.range 15).flatMap (hg_two x y z k) else [])).length) fd h xs' ys' zs' wn vl tk lm nb) :
    wY_listSingles_58 post J17 (nI g) (nI x) (nI y) (nI z) x5 (nI (k + 1)) (nI L.length) fd h xs ys zs wn vl tk lm nb := by
  refine pk_lt z (k + 1) (fun h1 => ?_) (fun h1 => ?_)
  · have e : hg_o (k + 1 ≤ z) (x, y, z - (k + 1)) = [] := if_neg (by omega)
    rw [e, List.append_nil] at hC
    exact hy_79 hg hx hy hz hk L hH (by omega) hC
  · have e : hg_o (k + 1 ≤ z) (x, y, z - (k + 1)) = [(x, y, z - (k + 1))] := if_pos h1
    rw [e] at hC
    exact hy_leave L (x, y, z - (k + 1)) rfl hH (by omega) rfl rfl (pk_sub h1) (fun xs' ys' zs' H' => hy_79 hg hx hy hz hk (L ++ [(x, y, z - (k + 1))]) H' (by rw [List.length_append]; show L.length + 1 + 45 ≤ 800; omega) hC)
theorem hy_41 {post : SY → Prop} {J17 : Int32 → Int32 → Int32 → (Nat → Int32) → (Nat → Int32) → (Nat → Int32) → (Nat → Int32) → (Nat → Int32) → (Nat → Int32) → (Nat → Int32) → (Nat → Int32) → (Nat → Int32) → Prop} {x5 : Int32} {g x y z k : Nat} (hg : g < 8) (hx : x ≤ 45) (hy : y ≤ 30) (hz : z ≤ 15) (hk : k < 15) (L : List hg_T) {xs ys zs : Nat → Int32} (hH : hg_H3 xs ys zs L) (hl : L.length + 47 ≤ 800)
    (hC : ∀ xs' ys' zs', hg_H3 xs' ys' zs' (L ++ hg_o (k + 1 ≤ y) (x, y - (k + 1), z) ++ hg_o (k + 1 ≤ z) (x, y, z - (k + 1)) ++ (if g = 2 then (List.range 15).flatMap (hg_two x y z k) else [])) → J17 (nI (k + 1 + 1)) (nI (L ++ hg_o (k + 1 ≤ y) (x, y - (k + 1), z) ++ hg_o (k + 1 ≤ z) (x, y, z - (k + 1)) ++ (if g = 2 then (List.range 15).flatMap (hg_two x y z k) else [])).length) fd h xs' ys' zs' wn vl tk lm nb) :
    wY_listSingles_41 post J17 (nI g) (nI x) (nI y) (nI z) x5 (nI (k + 1)) (nI L.length) fd h xs ys zs wn vl tk lm nb := by
  refine pk_lt y (k + 1) (fun h1 => ?_) (fun h1 => ?_)
  · have e : hg_o (k + 1 ≤ y) (x, y - (k + 1), z) = [] := if_neg (by omega)
    rw [e, List.append_nil] at hC
    exact hy_58 hg hx hy hz hk L hH (by omega) hC
  · have e : hg_o (k + 1 ≤ y) (x, y - (k + 1), z) = [(x, y - (k + 1), z)] := if_pos h1
    rw [e] at hC
    exact hy_leave L (x, y - (k + 1), z) rfl hH (by omega) rfl (pk_sub h1) rfl (fun xs' ys' zs' H' => hy_58 hg hx hy hz hk (L ++ [(x, y - (k + 1), z)]) H' (by rw [List.length_append]; show L.length + 1 + 46 ≤ 800; omega) hC)
theorem hy_17 {post : SY → Prop} {xs ys zs : Nat → Int32} {g x y z : Nat} (N : Nat) (hN : N ≤ 15) (hg : g < 8) (hx : x ≤ 45) (hy : y ≤ 30) (hz : z ≤ 15) (hp : ∀ xs' ys' zs', hg_H3 xs' ys' zs' ((List.range N).flatMap (hg_stp g x y z)) → post (nI ((List.range N).flatMap (hg_stp g x y z)).length, fd, h, xs', ys', zs', wn, vl, tk, lm, nb)) : ∃ n17 : Nat, wY_listSingles_17 post (nI g) (nI x) (nI y) (nI z) (nI N) n17 1 0 fd h xs ys zs wn vl tk lm nb := by
  have l17 := hy_loop0 (fun n k cn xs ys zs => wY_listSingles_17 post (nI g) (nI x) (nI y) (nI z) (nI N) n k cn fd h xs ys zs wn vl tk lm nb) (fun cn xs ys zs => post (cn, fd, h, xs, ys, zs, wn, vl, tk, lm, nb)) N 48 (fun k => nI (k + 1)) (hg_stp g x y z) (fun k _ => hg_stp_len g x y z k) (fun n cn xs ys zs e => br_t (nI_lt (by omega) (by omega)) e) ?_ [] xs ys zs (hg_H3_0 _ _ _) (by show 0 + _ ≤ 800; omega)
  · exact l17 (by simpa only [List.nil_append] using hp)
  · intro n k L xs ys zs hk hl hH hn
    have eS : L ++ hg_stp g x y z k = L ++ hg_o (k + 1 ≤ x) (x - (k + 1), y, z) ++ hg_o (k + 1 ≤ y) (x, y - (k + 1), z) ++ hg_o (k + 1 ≤ z) (x, y, z - (k + 1)) ++ (if g = 2 then (List.range 15).flatMap (hg_two x y z k) else []) := by
      unfold hg_stp
      simp only [List.append_assoc]
    rw [eS] at hn
    refine br_f (nI_nlt (by omega) (by omega)) (pk_lt x (k + 1) (fun h1 => ?_) (fun h1 => ?_))
    · have e : hg_o (k + 1 ≤ x) (x - (k + 1), y, z) = [] := if_neg (by omega)
      rw [e, List.append_nil] at hn
      exact hy_41 hg hx hy hz (by omega) L hH (by omega) hn
    · have e : hg_o (k + 1 ≤ x) (x - (k + 1), y, z) = [(x - (k + 1), y, z)] := if_pos h1
      rw [e] at hn
      exact hy_leave L (x - (k + 1), y, z) rfl hH (by omega) (pk_sub h1) rfl rfl (fun xs' ys' zs' H' => hy_41 hg hx hy hz (by omega) (L ++ [(x - (k + 1), y, z)]) H' (by rw [List.length_append]; show L.length + 1 + 47 ≤ 800; omega) hn)
theorem hy_singles {post : SY → Prop} {xs ys zs : Nat → Int32} {g x y z : Nat} (hg : g < 8) (h3 : g ≠ 3) (h4 : g ≠ 4) (h5 : g ≠ 5) (hx : x ≤ 45) (hy : y ≤ 30) (hz : z ≤ 15) (hp : ∀ xs' ys' zs', hg_H3 xs' ys' zs' (hg_LY g x y z) → post (nI (hg_LY g x y z).length, fd, h, xs', ys', zs', wn, vl, tk, lm, nb)) : wpY_listSingles post (0, fd, h, xs, ys, zs, wn, vl, tk, lm, nb) (nI g) (nI x) (nI y) (nI z) := by
  have e : hg_LY g x y z = (List.range (if g = 7 then 3 else 15)).flatMap (hg_stp g x y z) := by
    unfold hg_LY
    rw [if_neg h3, if_neg h4, if_neg h5]
  rw [e] at hp
  refine pk_eq g 7 (fun h7 => ?_) (fun h7 => ?_)
  · rw [if_pos h7] at hp
    exact hy_17 3 (by decide) hg hx hy hz hp
  · rw [if_neg h7] at hp
    exact hy_17 15 (by decide) hg hx hy hz hp
end
