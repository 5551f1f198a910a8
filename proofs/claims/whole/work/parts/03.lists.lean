/-! game 6 -/
def hg_fst (p : Nat) (s : Nat × Nat) : Nat × Nat := if p ≤ s.1 then (s.1 - p, p) else s
def hg_lst (n : Nat) : Nat := (hg_fst 1 (hg_fst 2 (hg_fst 3 (hg_fst 5 (hg_fst 8 (hg_fst 13 (hg_fst 21 (hg_fst 34 (hg_fst 55 (n, 0)))))))))).2
def hg_w6 (n l : Nat) : Bool := Nat.ble 1 (hg_lst n) && Nat.ble (hg_lst n) l
set_option maxRecDepth 100000 in
theorem hg_c6 : ((List.range 61).all fun n => (Nat.ble (hg_lst n) n && (Nat.beq n 0 || Nat.ble 1 (hg_lst n)))) = true := by decide +kernel
set_option maxRecDepth 100000 in
theorem hg_c6k : ((List.range 61).all fun n => (List.range n).all fun k => ((Nat.ble (hg_lst n) (k + 1) || hg_w6 (n - (k + 1)) (min 60 (2 * (k + 1)))) && (!(Nat.beq (k + 1) (hg_lst n)) || !(hg_w6 (n - (k + 1)) (min 60 (2 * (k + 1))))))) = true := by decide +kernel
theorem hg_l1 {n : Nat} (h : n ≤ 60) : hg_lst n ≤ n := by
  have := hg_all1 hg_c6 (x := n) (by omega)
  rw [Bool.and_eq_true] at this
  exact Nat.le_of_ble_eq_true this.1
theorem hg_l2 {n : Nat} (h : n ≤ 60) (h0 : 0 < n) : 0 < hg_lst n := by
  have := hg_all1 hg_c6 (x := n) (by omega)
  rw [Bool.and_eq_true, Bool.or_eq_true] at this
  rcases this.2 with e | e
  · have := hg_beqI.mp e
    omega
  · exact Nat.le_of_ble_eq_true e
theorem hg_l3 {n k : Nat} (h : n ≤ 60) (hk : k < n) (hl : k + 1 < hg_lst n) : hg_w6 (n - (k + 1)) (min 60 (2 * (k + 1))) = true := by
  have := hg_all1 (hg_all1 hg_c6k (x := n) (by omega)) hk
  rw [Bool.and_eq_true, Bool.or_eq_true] at this
  rcases this.1 with e | e
  · have := Nat.le_of_ble_eq_true e
    omega
  · exact e
theorem hg_l4 {n k : Nat} (h : n ≤ 60) (hk : k < n) (hl : k + 1 = hg_lst n) : hg_w6 (n - (k + 1)) (min 60 (2 * (k + 1))) = false := by
  have := hg_all1 (hg_all1 hg_c6k (x := n) (by omega)) hk
  rw [Bool.and_eq_true, Bool.or_eq_true, Bool.or_eq_true] at this
  rcases this.2 with e | e
  · rw [hg_beqI.mpr hl] at e
    exact Bool.noConfusion e
  · rw [Bool.not_eq_true'] at e
    exact e
theorem hg_w6T {n l : Nat} : hg_w6 n l = true ↔ 0 < hg_lst n ∧ hg_lst n ≤ l := by
  unfold hg_w6
  rw [Bool.and_eq_true, Nat.ble_eq, Nat.ble_eq]
  exact Iff.rfl
def hg_N6 (n l : Nat) : List Nat := (List.range (min n l)).map (fun k => k + 1)
theorem hg_mem6 {n l v : Nat} : v ∈ hg_N6 n l ↔ 0 < v ∧ v ≤ n ∧ v ≤ l := by
  unfold hg_N6
  rw [List.mem_map]
  constructor
  · rintro ⟨k, hk, rfl⟩
    rw [List.mem_range] at hk
    omega
  · intro h
    exact ⟨v - 1, List.mem_range.mpr (by omega), by omega⟩
theorem hg_K6 {n l : Nat} (h : n ≤ 60) : hg_w6 n l = true ↔ ∃ v, v ∈ hg_N6 n l ∧ hg_w6 (n - v) (min 60 (2 * v)) = false := by
  rw [hg_w6T]
  constructor
  · intro hl
    have h1 := hg_l1 h
    have h4 := hg_l4 (k := hg_lst n - 1) h (by omega) (by omega)
    have e : hg_lst n - 1 + 1 = hg_lst n := by omega
    rw [e] at h4
    exact ⟨hg_lst n, hg_mem6.mpr ⟨hl.1, h1, hl.2⟩, h4⟩
  · rintro ⟨v, hv, e⟩
    have hv := hg_mem6.mp hv
    refine ⟨hg_l2 h (by omega), ?_⟩
    by_cases hl : v < hg_lst n
    · have h3 := hg_l3 (k := v - 1) h (by omega) (by omega)
      have e' : v - 1 + 1 = v := by omega
      rw [e', e] at h3
      exact Bool.noConfusion h3
    · omega
theorem hg_nd6 (n l : Nat) : (hg_N6 n l).Pairwise (· < ·) := by
  unfold hg_N6
  generalize min n l = m
  induction m with
  | zero => exact List.Pairwise.nil
  | succ m ih =>
    rw [List.range_succ, List.map_append, List.pairwise_append]
    refine ⟨ih, List.pairwise_singleton _ _, ?_⟩
    intro a ha b hb
    obtain ⟨k, hk, rfl⟩ := List.mem_map.mp ha
    obtain ⟨j, hj, rfl⟩ := List.mem_map.mp hb
    rw [List.mem_range] at hk
    rw [List.mem_singleton] at hj
    omega
/-! lists in arrays -/
def hg_H (a : Nat → Int32) (L : List Nat) : Prop := ∀ i v, L[i]? = some v → a i = nI v
def hg_H3 (a b c : Nat → Int32) (L : List hg_T) : Prop := ∀ i q, L[i]? = some q → a i = nI q.1 ∧ b i = nI q.2.1 ∧ c i = nI q.2.2
theorem hg_app_at {α : Type} {L : List α} {v w : α} {i : Nat} (h : (L ++ [v])[i]? = some w) : (i < L.length ∧ L[i]? = some w) ∨ (i = L.length ∧ w = v) := by
  by_cases hi : i < L.length
  · rw [List.getElem?_append_left hi] at h
    exact Or.inl ⟨hi, h⟩
  · rw [List.getElem?_append_right (by omega)] at h
    cases e : i - L.length with
    | zero =>
      rw [e] at h
      exact Or.inr ⟨by omega, (Option.some.inj h).symm⟩
    | succ m =>
      rw [e] at h
      exact absurd h (by intro z; cases z)
theorem hg_upd_ne {f : Nat → Int32} {k j : Nat} {x : Int32} (h : j ≠ k) : upd f k x j = f j := by
  unfold upd
  rw [if_neg h]
theorem hg_upd_eq {f : Nat → Int32} {k : Nat} {x : Int32} : upd f k x k = x := by
  unfold upd
  rw [if_pos rfl]
theorem hg_H_0 (a : Nat → Int32) : hg_H a [] := by
  intro i v h
  cases h
theorem hg_H3_0 (a b c : Nat → Int32) : hg_H3 a b c [] := by
  intro i v h
  cases h
theorem hg_H_app {a : Nat → Int32} {L : List Nat} (h : hg_H a L) (v : Nat) : hg_H (upd a L.length (nI v)) (L ++ [v]) := by
  intro i w hw
  rcases hg_app_at hw with ⟨hi, hw⟩ | ⟨hi, hw⟩
  · rw [hg_upd_ne (by omega)]
    exact h i w hw
  · rw [hi, hg_upd_eq, hw]
theorem hg_H3_app {a b c : Nat → Int32} {L : List hg_T} (h : hg_H3 a b c L) (q : hg_T) : hg_H3 (upd a L.length (nI q.1)) (upd b L.length (nI q.2.1)) (upd c L.length (nI q.2.2)) (L ++ [q]) := by
  intro i w hw
  rcases hg_app_at hw with ⟨hi, hw⟩ | ⟨hi, hw⟩
  · rw [hg_upd_ne (by omega), hg_upd_ne (by omega), hg_upd_ne (by omega)]
    exact h i w hw
  · rw [hi, hg_upd_eq, hg_upd_eq, hg_upd_eq, hw]
    exact ⟨rfl, rfl, rfl⟩
/-! order -/
theorem hg_cnt : ∀ (S : List Nat), S.Pairwise (· < ·) → ∀ j w, S[j]? = some w → S.countP (fun v => decide (v < w)) = j
  | [], _, _, _, h => by cases h
  | a :: S, hp, 0, w, h => by
    have e : a = w := Option.some.inj h
    subst e
    rw [List.countP_eq_zero]
    intro b hb
    have hn : ¬ b < a := by
      rcases List.mem_cons.mp hb with rfl | hb
      · omega
      · have := (List.pairwise_cons.mp hp).1 b hb
        omega
    exact fun z => hn (of_decide_eq_true z)
  | a :: S, hp, j + 1, w, h => by
    have h' : S[j]? = some w := h
    have hw : w ∈ S := List.mem_of_getElem? h'
    have hl := (List.pairwise_cons.mp hp).1 w hw
    have ih := hg_cnt S (List.pairwise_cons.mp hp).2 j w h'
    have e := List.countP_cons_of_pos (p := fun v => decide (v < w)) (a := a) (l := S) (decide_eq_true hl)
    rw [e, ih]
theorem hg_pick {F S : List Nat} (hp : List.Perm F S) (hs : S.Pairwise (· < ·)) {v : Nat} (hv : v ∈ F) : ∃ j, S[j]? = some v ∧ F.countP (fun w => decide (w < v)) = j := by
  obtain ⟨j, hj⟩ := List.getElem?_of_mem (hp.mem_iff.mp hv)
  exact ⟨j, hj, by rw [hp.countP_eq]; exact hg_cnt S hs j v hj⟩
theorem hg_strict : ∀ {S : List Nat}, S.Pairwise (· ≤ ·) → S.Nodup → S.Pairwise (· < ·)
  | [], _, _ => List.Pairwise.nil
  | a :: S, hs, hn => by
    have h1 := List.pairwise_cons.mp hs
    have h2 := List.nodup_cons.mp hn
    refine List.pairwise_cons.mpr ⟨fun b hb => ?_, hg_strict h1.2 h2.2⟩
    have h3 := h1.1 b hb
    have h4 : a ≠ b := fun e => h2.1 (e ▸ hb)
    omega
theorem hg_insert {l1 l2 : List Nat} {n : Nat} (hs : (l1 ++ l2).Pairwise (· ≤ ·)) (h1 : ∀ v, v ∈ l1 → v ≤ n) (h2 : ∀ v, v ∈ l2 → n ≤ v) : (l1 ++ n :: l2).Pairwise (· ≤ ·) := by
  rw [List.pairwise_append] at hs ⊢
  refine ⟨hs.1, List.pairwise_cons.mpr ⟨h2, hs.2.1⟩, ?_⟩
  intro a ha b hb
  rw [List.mem_cons] at hb
  rcases hb with rfl | hb
  · exact h1 a ha
  · exact hs.2.2 a ha b hb
theorem hg_num_inj {p q : hg_T} (hp : p.1 < 32 ∧ p.2.1 < 32) (hq : q.1 < 32 ∧ q.2.1 < 32) (h : hg_num p = hg_num q) : p = q := by
  obtain ⟨a, b, c⟩ := p
  obtain ⟨a', b', c'⟩ := q
  unfold hg_num at h
  dsimp only at h hp hq
  have e1 : a = a' := by omega
  have e2 : b = b' := by omega
  have e3 : c = c' := by omega
  rw [e1, e2, e3]
theorem hg_num_dec {p : hg_T} (hp : p.1 < 32 ∧ p.2.1 < 32) : hg_num p % 32 = p.1 ∧ hg_num p % 1024 / 32 = p.2.1 ∧ hg_num p / 32 % 32 = p.2.1 ∧ hg_num p / 1024 = p.2.2 := by
  unfold hg_num
  omega
theorem hg_map_nd {L : List hg_T} (hb : ∀ q, q ∈ L → q.1 < 32 ∧ q.2.1 < 32) (hn : L.Nodup) : (L.map hg_num).Nodup := by
  induction L with
  | nil => exact List.Pairwise.nil
  | cons p L ih =>
    have h2 := List.nodup_cons.mp hn
    rw [List.map_cons, List.nodup_cons]
    refine ⟨fun hm => ?_, ih (fun q hq => hb q (List.mem_cons_of_mem _ hq)) h2.2⟩
    obtain ⟨q, hq, e⟩ := List.mem_map.mp hm
    have := hg_num_inj (hb q (List.mem_cons_of_mem _ hq)) (hb p List.mem_cons_self) e
    exact h2.1 (this ▸ hq)
/-- the bounds of what one move leaves -/
theorem hg_bd {g x y z : Nat} {q : hg_T} (hx : x ≤ 15) (hy : y ≤ 15) (hz : z ≤ 15) (h : q ∈ hg_LX g x y z) : q.1 ≤ 30 ∧ q.2.1 ≤ 30 ∧ q.2.2 ≤ 15 ∧ (g ≠ 3 → q.1 ≤ 15 ∧ q.2.1 ≤ 15) := by
  by_cases h3 : g = 3
  · subst h3
    rcases hg_mem3.mp h with ⟨k, hk, rfl⟩ | ⟨k, hk, rfl⟩ | ⟨k, hk, rfl⟩ <;> (dsimp only; omega)
  · have := hg_less h3 h
    omega
/-- the winning moves, by their numbers, in X's order -/
def hg_F (g x y z : Nat) : List Nat := ((hg_LX g x y z).filter (fun q => !hg_Wq g q)).map hg_num
theorem hg_F_nd {g x y z : Nat} (hx : x ≤ 15) (hy : y ≤ 15) (hz : z ≤ 15) : (hg_F g x y z).Nodup := by
  refine hg_map_nd (fun q hq => ?_) (List.Nodup.sublist List.filter_sublist (hg_nodup g x y z))
  have := hg_bd hx hy hz ((List.mem_filter.mp hq).1)
  omega
theorem hg_F_eq {g x y z : Nat} (hx : x ≤ 15) (hy : y ≤ 15) (hz : z ≤ 15) : ((hg_LX g x y z).map hg_num).filter (fun v => !hg_W g (v % 32) (v % 1024 / 32) (v / 1024)) = hg_F g x y z := by
  unfold hg_F
  rw [List.filter_map]
  congr 1
  refine List.filter_congr (fun q hq => ?_)
  have hb := hg_bd hx hy hz hq
  have hd := hg_num_dec (p := q) ⟨by omega, by omega⟩
  show (!hg_W g (hg_num q % 32) (hg_num q % 1024 / 32) (hg_num q / 1024)) = !hg_Wq g q
  rw [hd.1, hd.2.1, hd.2.2.2]
  rfl
theorem hg_F_len {g x y z : Nat} (hg : g < 8) (h6 : g ≠ 6) (hx : x ≤ 15) (hy : y ≤ 15) (hz : z ≤ 15) : hg_W g x y z = true ↔ 0 < (hg_F g x y z).length ∨ (g = 1 ∧ (hg_LX g x y z).length = 0) := by
  have hK : hg_K g x y z := hg_Kall hg h6 (Or.inr ⟨hx, hy, hz⟩)
  unfold hg_K at hK
  rw [hK]
  unfold hg_F
  rw [List.length_map, List.length_eq_zero_iff, List.length_pos_iff_exists_mem]
  constructor
  · rintro (⟨q, hq, e⟩ | h)
    · exact Or.inl ⟨q, List.mem_filter.mpr ⟨hq, by rw [e]; rfl⟩⟩
    · exact Or.inr h
  · rintro (⟨q, hq⟩ | h)
    · obtain ⟨h1, h2⟩ := List.mem_filter.mp hq
      rw [Bool.not_eq_true'] at h2
      exact Or.inl ⟨q, h1, h2⟩
    · exact Or.inr h
