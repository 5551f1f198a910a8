abbrev hg_T : Type := Nat × Nat × Nat
def hg_num (p : hg_T) : Nat := p.1 + 32 * p.2.1 + 1024 * p.2.2
def hg_run (n : Nat) (f : Nat → hg_T) : List hg_T := (List.range n).map f
def hg_o (c : Prop) [Decidable c] (p : hg_T) : List hg_T := if c then [p] else []
theorem hg_fs {α β : Type} (f : α → β) : ∀ l : List α, l.flatMap (fun k => [f k]) = l.map f
  | [] => rfl
  | a :: l => by rw [List.flatMap_cons, List.map_cons, hg_fs f l]; rfl
theorem hg_mem_run {n : Nat} {f : Nat → hg_T} {q : hg_T} : q ∈ hg_run n f ↔ ∃ k, k < n ∧ q = f k := by
  unfold hg_run
  rw [List.mem_map]
  constructor
  · rintro ⟨k, hk, rfl⟩
    exact ⟨k, List.mem_range.mp hk, rfl⟩
  · rintro ⟨k, hk, rfl⟩
    exact ⟨k, List.mem_range.mpr hk, rfl⟩
theorem hg_run_0 (f : Nat → hg_T) : hg_run 0 f = [] := rfl
theorem hg_run_s (n : Nat) (f : Nat → hg_T) : hg_run (n + 1) f = hg_run n f ++ [f n] := by
  unfold hg_run
  rw [List.range_succ, List.map_append]
  rfl
theorem hg_run_len (n : Nat) (f : Nat → hg_T) : (hg_run n f).length = n := by
  unfold hg_run
  rw [List.length_map, List.length_range]
theorem hg_flat_app {α β : Type} (f g : α → List β) : ∀ l : List α, List.Perm (l.flatMap (fun a => f a ++ g a)) (l.flatMap f ++ l.flatMap g)
  | [] => List.Perm.refl _
  | a :: l => by
    simp only [List.flatMap_cons]
    refine (List.Perm.append_left (f a ++ g a) (hg_flat_app f g l)).trans ?_
    simp only [List.append_assoc]
    exact List.Perm.append_left _ (List.perm_append_comm_assoc _ _ _)
theorem hg_flat3 {α β : Type} (a b c : α → List β) (l : List α) : List.Perm (l.flatMap (fun k => a k ++ b k ++ c k)) (l.flatMap a ++ l.flatMap b ++ l.flatMap c) :=
  (hg_flat_app (fun k => a k ++ b k) c l).trans (List.Perm.append_right _ (hg_flat_app a b l))
theorem hg_flat4 {α β : Type} (a b c d : α → List β) (l : List α) : List.Perm (l.flatMap (fun k => a k ++ b k ++ c k ++ d k)) (l.flatMap a ++ l.flatMap b ++ l.flatMap c ++ l.flatMap d) :=
  (hg_flat_app (fun k => a k ++ b k ++ c k) d l).trans (List.Perm.append_right _ (hg_flat3 a b c l))
theorem hg_flat_cg {α β : Type} {f g : α → List β} (h : ∀ a, List.Perm (f a) (g a)) : ∀ l : List α, List.Perm (l.flatMap f) (l.flatMap g)
  | [] => List.Perm.refl _
  | a :: l => by
    simp only [List.flatMap_cons]
    exact List.Perm.append (h a) (hg_flat_cg h l)
theorem hg_flat_nil {α β : Type} : ∀ l : List α, l.flatMap (fun _ => ([] : List β)) = []
  | [] => rfl
  | a :: l => by rw [List.flatMap_cons, hg_flat_nil l]; rfl
theorem hg_of {β : Type} (n : Nat) (g : Nat → List β) : ∀ m, (List.range m).flatMap (fun k => if k + 1 ≤ n then g k else []) = (List.range (min n m)).flatMap g
  | 0 => by
    have e : min n 0 = 0 := by omega
    rw [e]; rfl
  | m + 1 => by
    rw [List.range_succ, List.flatMap_append, hg_of n g m, List.flatMap_singleton]
    by_cases h : m + 1 ≤ n
    · have e : min n (m + 1) = m + 1 := by omega
      have e2 : min n m = m := by omega
      rw [e, e2, List.range_succ, List.flatMap_append, List.flatMap_singleton, if_pos h]
    · have e : min n (m + 1) = min n m := by omega
      rw [e, if_neg h, List.append_nil]
theorem hg_of1 (n : Nat) (f : Nat → hg_T) (m : Nat) : (List.range m).flatMap (fun k => hg_o (k + 1 ≤ n) (f k)) = hg_run (min n m) f := by
  have h := hg_of n (fun k => [f k]) m
  rw [hg_fs] at h
  exact h
theorem hg_of2 (k x y : Nat) (d : Nat → hg_T) (hy : y ≤ 15) : (List.range 15).flatMap (fun m => hg_o (k + 1 ≤ x ∧ m + 1 ≤ y) (d m)) = if k + 1 ≤ x then hg_run y d else [] := by
  by_cases h : k + 1 ≤ x
  · rw [if_pos h]
    have e : (fun m => hg_o (k + 1 ≤ x ∧ m + 1 ≤ y) (d m)) = fun m => hg_o (m + 1 ≤ y) (d m) := by
      funext m
      unfold hg_o
      by_cases h2 : m + 1 ≤ y
      · rw [if_pos ⟨h, h2⟩, if_pos h2]
      · rw [if_neg (fun z => h2 z.2), if_neg h2]
    rw [e, hg_of1]
    have e2 : min y 15 = y := by omega
    rw [e2]
  · rw [if_neg h]
    have e : (fun m => hg_o (k + 1 ≤ x ∧ m + 1 ≤ y) (d m)) = fun _ => [] := by
      funext m
      unfold hg_o
      rw [if_neg (fun z => h z.1)]
    rw [e, hg_flat_nil]
/-! the lists of moves -/
def hg_LX (g x y z : Nat) : List hg_T :=
  if g = 2 then hg_run x (fun k => (x - (k + 1), y, z)) ++ hg_run y (fun k => (x, y - (k + 1), z)) ++ hg_run z (fun k => (x, y, z - (k + 1))) ++ ((List.range x).flatMap (fun k => hg_run y (fun m => (x - (k + 1), y - (m + 1), z)) ++ hg_run z (fun m => (x - (k + 1), y, z - (m + 1)))) ++ (List.range y).flatMap (fun k => hg_run z (fun m => (x, y - (k + 1), z - (m + 1)))))
  else if g = 3 then hg_run x (fun k => (x - (k + 1), y, z)) ++ hg_run y (fun k => (x + (k + 1), y - (k + 1), z)) ++ hg_run z (fun k => (x, y + (k + 1), z - (k + 1)))
  else if g = 4 then hg_run x (fun k => (x - (k + 1), y, z)) ++ hg_run y (fun k => (x, y - (k + 1), z)) ++ hg_run (min x y) (fun k => (x - (k + 1), y - (k + 1), z))
  else if g = 5 then (if x = 0 ∨ y = 0 then [] else hg_run (x / y) (fun k => (x - (k + 1) * y, y, z)) ++ hg_run (y / x) (fun k => (x, y - (k + 1) * x, z)))
  else hg_run (min x (if g = 7 then 3 else 15)) (fun k => (x - (k + 1), y, z)) ++ hg_run (min y (if g = 7 then 3 else 15)) (fun k => (x, y - (k + 1), z)) ++ hg_run (min z (if g = 7 then 3 else 15)) (fun k => (x, y, z - (k + 1)))
def hg_two (x y z k m : Nat) : List hg_T := hg_o (k + 1 ≤ x ∧ m + 1 ≤ y) (x - (k + 1), y - (m + 1), z) ++ hg_o (k + 1 ≤ x ∧ m + 1 ≤ z) (x - (k + 1), y, z - (m + 1)) ++ hg_o (k + 1 ≤ y ∧ m + 1 ≤ z) (x, y - (k + 1), z - (m + 1))
def hg_stp (g x y z k : Nat) : List hg_T := hg_o (k + 1 ≤ x) (x - (k + 1), y, z) ++ hg_o (k + 1 ≤ y) (x, y - (k + 1), z) ++ hg_o (k + 1 ≤ z) (x, y, z - (k + 1)) ++ (if g = 2 then (List.range 15).flatMap (hg_two x y z k) else [])
def hg_LY (g x y z : Nat) : List hg_T :=
  if g = 3 then hg_run z (fun k => (x, y + (k + 1), z - (k + 1))) ++ hg_run y (fun k => (x + (k + 1), y - (k + 1), z)) ++ hg_run x (fun k => (x - (k + 1), y, z))
  else if g = 4 then hg_LX 4 x y z
  else if g = 5 then hg_LX 5 x y z
  else (List.range (if g = 7 then 3 else 15)).flatMap (hg_stp g x y z)
theorem hg_perm2 (x y z : Nat) (hx : x ≤ 15) (hy : y ≤ 15) (hz : z ≤ 15) : List.Perm (hg_LY 2 x y z) (hg_LX 2 x y z) := by
  have ex : min x 15 = x := by omega
  have ey : min y 15 = y := by omega
  have ez : min z 15 = z := by omega
  show List.Perm ((List.range 15).flatMap (fun k => hg_o (k + 1 ≤ x) (x - (k + 1), y, z) ++ hg_o (k + 1 ≤ y) (x, y - (k + 1), z) ++ hg_o (k + 1 ≤ z) (x, y, z - (k + 1)) ++ (List.range 15).flatMap (hg_two x y z k))) _
  refine (hg_flat4 _ _ _ _ _).trans ?_
  rw [hg_of1, hg_of1, hg_of1, ex, ey, ez]
  refine List.Perm.append_left _ ?_
  have h1 : ∀ k, List.Perm ((List.range 15).flatMap (hg_two x y z k)) ((if k + 1 ≤ x then hg_run y (fun m => (x - (k + 1), y - (m + 1), z)) else []) ++ (if k + 1 ≤ x then hg_run z (fun m => (x - (k + 1), y, z - (m + 1))) else []) ++ (if k + 1 ≤ y then hg_run z (fun m => (x, y - (k + 1), z - (m + 1))) else [])) := by
    intro k
    have h := hg_flat3 (fun m => hg_o (k + 1 ≤ x ∧ m + 1 ≤ y) (x - (k + 1), y - (m + 1), z)) (fun m => hg_o (k + 1 ≤ x ∧ m + 1 ≤ z) (x - (k + 1), y, z - (m + 1))) (fun m => hg_o (k + 1 ≤ y ∧ m + 1 ≤ z) (x, y - (k + 1), z - (m + 1))) (List.range 15)
    rw [hg_of2 k x y _ hy, hg_of2 k x z _ hz, hg_of2 k y z _ hz] at h
    exact h
  refine (hg_flat_cg h1 _).trans ?_
  refine (hg_flat3 _ _ _ _).trans ?_
  rw [hg_of x, hg_of x, hg_of y, ex, ey]
  exact List.Perm.append_right _ (hg_flat_app _ _ _).symm
theorem hg_permS (g x y z : Nat) (h2 : g ≠ 2) (h3 : g ≠ 3) (h4 : g ≠ 4) (h5 : g ≠ 5) : List.Perm (hg_LY g x y z) (hg_LX g x y z) := by
  have eY : hg_LY g x y z = (List.range (if g = 7 then 3 else 15)).flatMap (fun k => hg_o (k + 1 ≤ x) (x - (k + 1), y, z) ++ hg_o (k + 1 ≤ y) (x, y - (k + 1), z) ++ hg_o (k + 1 ≤ z) (x, y, z - (k + 1))) := by
    unfold hg_LY
    rw [if_neg h3, if_neg h4, if_neg h5]
    congr 1
    funext k
    unfold hg_stp
    rw [if_neg h2, List.append_nil]
  have eX : hg_LX g x y z = hg_run (min x (if g = 7 then 3 else 15)) (fun k => (x - (k + 1), y, z)) ++ hg_run (min y (if g = 7 then 3 else 15)) (fun k => (x, y - (k + 1), z)) ++ hg_run (min z (if g = 7 then 3 else 15)) (fun k => (x, y, z - (k + 1))) := by
    unfold hg_LX
    rw [if_neg h2, if_neg h3, if_neg h4, if_neg h5]
  rw [eY, eX]
  refine (hg_flat3 _ _ _ _).trans ?_
  rw [hg_of1, hg_of1, hg_of1]
theorem hg_perm3 (x y z : Nat) : List.Perm (hg_LY 3 x y z) (hg_LX 3 x y z) := by
  show List.Perm (hg_run z (fun k => (x, y + (k + 1), z - (k + 1))) ++ hg_run y (fun k => (x + (k + 1), y - (k + 1), z)) ++ hg_run x (fun k => (x - (k + 1), y, z))) (hg_run x (fun k => (x - (k + 1), y, z)) ++ hg_run y (fun k => (x + (k + 1), y - (k + 1), z)) ++ hg_run z (fun k => (x, y + (k + 1), z - (k + 1))))
  refine List.perm_append_comm.trans ?_
  rw [List.append_assoc]
  exact List.Perm.append_left _ List.perm_append_comm
theorem hg_perm (g x y z : Nat) (hx : x ≤ 15) (hy : y ≤ 15) (hz : z ≤ 15) : List.Perm (hg_LY g x y z) (hg_LX g x y z) := by
  by_cases h2 : g = 2
  · subst h2; exact hg_perm2 x y z hx hy hz
  · by_cases h3 : g = 3
    · subst h3; exact hg_perm3 x y z
    · by_cases h4 : g = 4
      · subst h4; exact List.Perm.refl _
      · by_cases h5 : g = 5
        · subst h5; exact List.Perm.refl _
        · exact hg_permS g x y z h2 h3 h4 h5
/-- the lists agree up to order where judge lists them -/
theorem hg_permJ (g x y z : Nat) (h2 : g ≠ 2) : List.Perm (hg_LY g x y z) (hg_LX g x y z) := by
  by_cases h3 : g = 3
  · subst h3; exact hg_perm3 x y z
  · by_cases h4 : g = 4
    · subst h4; exact List.Perm.refl _
    · by_cases h5 : g = 5
      · subst h5; exact List.Perm.refl _
      · exact hg_permS g x y z h2 h3 h4 h5
/-! no move twice -/
theorem hg_nd_run {n : Nat} {f : Nat → hg_T} (h : ∀ i j, i < n → j < n → f i = f j → i = j) : (hg_run n f).Nodup := by
  induction n with
  | zero => exact List.Pairwise.nil
  | succ n ih =>
    rw [hg_run_s, List.nodup_append]
    refine ⟨ih (fun i j hi hj e => h i j (by omega) (by omega) e), List.pairwise_singleton _ _, ?_⟩
    intro a ha b hb e
    obtain ⟨k, hk, rfl⟩ := hg_mem_run.mp ha
    rw [List.mem_singleton] at hb
    have := h k n (by omega) (by omega) (e.trans hb)
    omega
theorem hg_nd_flat {n : Nat} {f : Nat → List hg_T} (h1 : ∀ i, i < n → (f i).Nodup) (h2 : ∀ i j a, i < j → j < n → a ∈ f i → a ∈ f j → False) : ((List.range n).flatMap f).Nodup := by
  induction n with
  | zero => exact List.Pairwise.nil
  | succ n ih =>
    rw [List.range_succ, List.flatMap_append, List.flatMap_singleton, List.nodup_append]
    refine ⟨ih (fun i hi => h1 i (by omega)) (fun i j a hi hj => h2 i j a hi (by omega)), h1 n (by omega), ?_⟩
    intro a ha b hb e
    obtain ⟨k, hk, hka⟩ := List.mem_flatMap.mp ha
    subst e
    exact h2 k n a (List.mem_range.mp hk) (by omega) hka hb
theorem hg_pe {a b c a' b' c' : Nat} (h : ((a, b, c) : hg_T) = (a', b', c')) : a = a' ∧ b = b' ∧ c = c' := by
  cases h
  exact ⟨rfl, rfl, rfl⟩
theorem hg_nd2 (x y z : Nat) : (hg_LX 2 x y z).Nodup := by
  show (hg_run x (fun k => (x - (k + 1), y, z)) ++ hg_run y (fun k => (x, y - (k + 1), z)) ++ hg_run z (fun k => (x, y, z - (k + 1))) ++ ((List.range x).flatMap (fun k => hg_run y (fun m => (x - (k + 1), y - (m + 1), z)) ++ hg_run z (fun m => (x - (k + 1), y, z - (m + 1)))) ++ (List.range y).flatMap (fun k => hg_run z (fun m => (x, y - (k + 1), z - (m + 1)))))).Nodup
  have rA : (hg_run x (fun k => (x - (k + 1), y, z))).Nodup := hg_nd_run (fun i j hi hj e => by have := hg_pe e; omega)
  have rB : (hg_run y (fun k => (x, y - (k + 1), z))).Nodup := hg_nd_run (fun i j hi hj e => by have := hg_pe e; omega)
  have rC : (hg_run z (fun k => (x, y, z - (k + 1)))).Nodup := hg_nd_run (fun i j hi hj e => by have := hg_pe e; omega)
  rw [List.nodup_append, List.nodup_append, List.nodup_append, List.nodup_append]
  refine ⟨⟨⟨rA, rB, ?_⟩, rC, ?_⟩, ⟨?_, ?_, ?_⟩, ?_⟩
  · intro a ha b hb e
    subst e
    obtain ⟨k, hk, e1⟩ := hg_mem_run.mp ha
    obtain ⟨m, hm, e2⟩ := hg_mem_run.mp hb
    have := hg_pe (e1.symm.trans e2)
    omega
  · intro a ha b hb e
    subst e
    obtain ⟨m, hm, e2⟩ := hg_mem_run.mp hb
    rw [List.mem_append] at ha
    rcases ha with ha | ha
    · obtain ⟨k, hk, e1⟩ := hg_mem_run.mp ha
      have := hg_pe (e1.symm.trans e2)
      omega
    · obtain ⟨k, hk, e1⟩ := hg_mem_run.mp ha
      have := hg_pe (e1.symm.trans e2)
      omega
  · refine hg_nd_flat (fun k hk => ?_) ?_
    · rw [List.nodup_append]
      refine ⟨hg_nd_run (fun i j hi hj e => by have := hg_pe e; omega), hg_nd_run (fun i j hi hj e => by have := hg_pe e; omega), ?_⟩
      intro a ha b hb e
      subst e
      obtain ⟨i, hi, e1⟩ := hg_mem_run.mp ha
      obtain ⟨m, hm, e2⟩ := hg_mem_run.mp hb
      have := hg_pe (e1.symm.trans e2)
      omega
    · intro i j a hij hj ha hb
      rw [List.mem_append] at ha hb
      rcases ha with ha | ha <;> rcases hb with hb | hb <;> (obtain ⟨k, hk, e1⟩ := hg_mem_run.mp ha; obtain ⟨m, hm, e2⟩ := hg_mem_run.mp hb; have := hg_pe (e1.symm.trans e2); omega)
  · refine hg_nd_flat (fun k hk => hg_nd_run (fun i j hi hj e => by have := hg_pe e; omega)) ?_
    intro i j a hij hj ha hb
    obtain ⟨k, hk, e1⟩ := hg_mem_run.mp ha
    obtain ⟨m, hm, e2⟩ := hg_mem_run.mp hb
    have := hg_pe (e1.symm.trans e2)
    omega
  · intro a ha b hb e
    subst e
    obtain ⟨k, hk, ha⟩ := List.mem_flatMap.mp ha
    obtain ⟨l, hl, hb⟩ := List.mem_flatMap.mp hb
    rw [List.mem_range] at hk hl
    obtain ⟨m, hm, e2⟩ := hg_mem_run.mp hb
    rw [List.mem_append] at ha
    rcases ha with ha | ha <;> (obtain ⟨i, hi, e1⟩ := hg_mem_run.mp ha; have := hg_pe (e1.symm.trans e2); omega)
  · intro a ha b hb e
    subst e
    rw [List.mem_append] at hb
    have h2 : (∃ i m, i < x ∧ m < y ∧ a = (x - (i + 1), y - (m + 1), z)) ∨ (∃ i m, i < x ∧ m < z ∧ a = (x - (i + 1), y, z - (m + 1))) ∨ (∃ i m, i < y ∧ m < z ∧ a = (x, y - (i + 1), z - (m + 1))) := by
      rcases hb with hb | hb
      · obtain ⟨k, hk, hb⟩ := List.mem_flatMap.mp hb
        rw [List.mem_range] at hk
        rw [List.mem_append] at hb
        rcases hb with hb | hb
        · obtain ⟨m, hm, e2⟩ := hg_mem_run.mp hb
          exact Or.inl ⟨k, m, hk, hm, e2⟩
        · obtain ⟨m, hm, e2⟩ := hg_mem_run.mp hb
          exact Or.inr (Or.inl ⟨k, m, hk, hm, e2⟩)
      · obtain ⟨k, hk, hb⟩ := List.mem_flatMap.mp hb
        rw [List.mem_range] at hk
        obtain ⟨m, hm, e2⟩ := hg_mem_run.mp hb
        exact Or.inr (Or.inr ⟨k, m, hk, hm, e2⟩)
    rw [List.mem_append, List.mem_append] at ha
    rcases ha with (ha | ha) | ha <;> rcases h2 with ⟨i, m, hi, hm, e2⟩ | ⟨i, m, hi, hm, e2⟩ | ⟨i, m, hi, hm, e2⟩ <;> (obtain ⟨k, hk, e1⟩ := hg_mem_run.mp ha; have := hg_pe (e1.symm.trans e2); omega)
theorem hg_nd3 {n1 n2 n3 : Nat} {f1 f2 f3 : Nat → hg_T} (h1 : ∀ i j, i < n1 → j < n1 → f1 i = f1 j → i = j) (h2 : ∀ i j, i < n2 → j < n2 → f2 i = f2 j → i = j) (h3 : ∀ i j, i < n3 → j < n3 → f3 i = f3 j → i = j) (h12 : ∀ i j, i < n1 → j < n2 → f1 i = f2 j → False) (h13 : ∀ i j, i < n1 → j < n3 → f1 i = f3 j → False) (h23 : ∀ i j, i < n2 → j < n3 → f2 i = f3 j → False) : (hg_run n1 f1 ++ hg_run n2 f2 ++ hg_run n3 f3).Nodup := by
  rw [List.nodup_append, List.nodup_append]
  refine ⟨⟨hg_nd_run h1, hg_nd_run h2, ?_⟩, hg_nd_run h3, ?_⟩
  · intro a ha b hb e
    subst e
    obtain ⟨k, hk, e1⟩ := hg_mem_run.mp ha
    obtain ⟨m, hm, e2⟩ := hg_mem_run.mp hb
    exact h12 k m hk hm (e1.symm.trans e2)
  · intro a ha b hb e
    subst e
    obtain ⟨m, hm, e2⟩ := hg_mem_run.mp hb
    rw [List.mem_append] at ha
    rcases ha with ha | ha
    · obtain ⟨k, hk, e1⟩ := hg_mem_run.mp ha
      exact h13 k m hk hm (e1.symm.trans e2)
    · obtain ⟨k, hk, e1⟩ := hg_mem_run.mp ha
      exact h23 k m hk hm (e1.symm.trans e2)
theorem hg_kdiv {k x y : Nat} (h : k < x / y) : (k + 1) * y ≤ x :=
  Nat.le_trans (Nat.mul_le_mul_right y h) (Nat.div_mul_le_self x y)
theorem hg_nd5 (x y z : Nat) : (hg_LX 5 x y z).Nodup := by
  show (if x = 0 ∨ y = 0 then [] else hg_run (x / y) (fun k => (x - (k + 1) * y, y, z)) ++ hg_run (y / x) (fun k => (x, y - (k + 1) * x, z))).Nodup
  by_cases h : x = 0 ∨ y = 0
  · rw [if_pos h]; exact List.Pairwise.nil
  · rw [if_neg h, List.nodup_append]
    have hx : 0 < x := by omega
    have hy : 0 < y := by omega
    refine ⟨hg_nd_run ?_, hg_nd_run ?_, ?_⟩
    · intro i j hi hj e
      have e1 := (hg_pe e).1
      have a1 := hg_kdiv hi
      have a2 := hg_kdiv hj
      have e2 : (i + 1) * y = (j + 1) * y := by omega
      have := Nat.eq_of_mul_eq_mul_right hy e2
      omega
    · intro i j hi hj e
      have e1 := (hg_pe e).2.1
      have a1 := hg_kdiv hi
      have a2 := hg_kdiv hj
      have e2 : (i + 1) * x = (j + 1) * x := by omega
      have := Nat.eq_of_mul_eq_mul_right hx e2
      omega
    · intro a ha b hb e
      subst e
      obtain ⟨k, hk, e1⟩ := hg_mem_run.mp ha
      obtain ⟨m, hm, e2⟩ := hg_mem_run.mp hb
      have e3 := (hg_pe (e1.symm.trans e2)).1
      have a1 := hg_kdiv hk
      have a2 : 1 * y ≤ (k + 1) * y := Nat.mul_le_mul_right y (by omega)
      omega
theorem hg_nodup (g x y z : Nat) : (hg_LX g x y z).Nodup := by
  by_cases h2 : g = 2
  · subst h2; exact hg_nd2 x y z
  · by_cases h3 : g = 3
    · subst h3
      refine hg_nd3 ?_ ?_ ?_ ?_ ?_ ?_ <;> (intro i j hi hj e; have := hg_pe e; omega)
    · by_cases h4 : g = 4
      · subst h4
        refine hg_nd3 ?_ ?_ ?_ ?_ ?_ ?_ <;> (intro i j hi hj e; have := hg_pe e; omega)
      · by_cases h5 : g = 5
        · subst h5; exact hg_nd5 x y z
        · unfold hg_LX
          rw [if_neg h2, if_neg h3, if_neg h4, if_neg h5]
          refine hg_nd3 ?_ ?_ ?_ ?_ ?_ ?_ <;> (intro i j hi hj e; have := hg_pe e; omega)
