def hg_og (x y : Nat) : Bool := Nat.blt (y * (x + y)) (x * x)
def hg_w0 (x y z : Nat) : Bool := !(Nat.beq (x ^^^ y ^^^ z) 0)
def hg_w1 (x y z : Nat) : Bool := Bool.xor (!(Nat.beq (x ^^^ y ^^^ z) 0)) (Nat.ble x 1 && Nat.ble y 1 && Nat.ble z 1)
def hg_w2 (x y z : Nat) : Bool := !(Nat.beq x y && Nat.beq y z)
def hg_w3 (x z : Nat) : Bool := !(Nat.beq x z)
def hg_w4 (a b : Nat) : Bool := hg_og (min a b) (a + b - 2 * min a b) || !(hg_og (min a b + 1) (a + b - 2 * min a b))
def hg_w5 (a b : Nat) : Bool := !(Nat.beq (min a b) 0) && (Nat.beq (a + b - min a b) (min a b) || hg_og (a + b - min a b) (min a b))
def hg_w7 (x y z : Nat) : Bool := !(Nat.beq ((x ^^^ y ^^^ z) &&& 3) 0)
def hg_W (g x y z : Nat) : Bool :=
  if g = 1 then hg_w1 x y z else if g = 2 then hg_w2 x y z else if g = 3 then hg_w3 x z else if g = 4 then hg_w4 x y else if g = 5 then hg_w5 x y else if g = 7 then hg_w7 x y z else hg_w0 x y z
def hg_V (g x y z : Nat) : Nat := if g = 0 then x ^^^ y ^^^ z else if g = 7 then (x ^^^ y ^^^ z) &&& 3 else 0
def hg_Wq (g : Nat) (q : hg_T) : Bool := hg_W g q.1 q.2.1 q.2.2
def hg_Vq (g : Nat) (q : hg_T) : Nat := hg_V g q.1 q.2.1 q.2.2
def hg_any (n : Nat) (f : Nat → Bool) : Bool := (List.range n).any f
theorem hg_any_iff {n : Nat} {f : Nat → Bool} : hg_any n f = true ↔ ∃ k, k < n ∧ f k = true := by
  unfold hg_any
  rw [List.any_eq_true]
  constructor
  · rintro ⟨k, hk, h⟩
    exact ⟨k, List.mem_range.mp hk, h⟩
  · rintro ⟨k, hk, h⟩
    exact ⟨k, List.mem_range.mpr hk, h⟩
theorem hg_all1 {n : Nat} {f : Nat → Bool} (h : (List.range n).all f = true) {x : Nat} (hx : x < n) : f x = true :=
  List.all_eq_true.mp h x (List.mem_range.mpr hx)
theorem hg_all2 {m n : Nat} {f : Nat → Nat → Bool} (h : ((List.range m).all fun x => (List.range n).all fun y => f x y) = true) {x y : Nat} (hx : x < m) (hy : y < n) : f x y = true :=
  hg_all1 (hg_all1 h hx) hy
theorem hg_all3 {m : Nat} {f : Nat → Nat → Nat → Bool} (h : ((List.range m).all fun x => (List.range m).all fun y => (List.range m).all fun z => f x y z) = true) {x y z : Nat} (hx : x < m) (hy : y < m) (hz : z < m) : f x y z = true :=
  hg_all1 (hg_all2 h hx hy) hz
theorem hg_beqI {a b : Nat} : Nat.beq a b = true ↔ a = b := by rw [Nat.beq_eq]
theorem hg_beqF {a b : Nat} : Nat.beq a b = false ↔ a ≠ b := by
  constructor
  · intro h e
    rw [hg_beqI.mpr e] at h
    exact Bool.noConfusion h
  · intro h
    cases e : Nat.beq a b
    · rfl
    · exact absurd (hg_beqI.mp e) h
/-! closed tables -/
set_option maxRecDepth 100000 in
theorem hg_c0 : ((List.range 16).all fun x => (List.range 16).all fun y => (List.range 16).all fun z => (List.range (x ^^^ y ^^^ z)).all fun v => (Nat.blt (v ^^^ y ^^^ z) x || Nat.blt (v ^^^ x ^^^ z) y || Nat.blt (v ^^^ x ^^^ y) z)) = true := by decide +kernel
set_option maxRecDepth 100000 in
theorem hg_c7 : ((List.range 16).all fun x => (List.range 16).all fun y => (List.range 16).all fun z => (List.range ((x ^^^ y ^^^ z) &&& 3)).all fun v => (hg_any (min x 3) (fun k => Nat.beq (((x - (k + 1)) ^^^ y ^^^ z) &&& 3) v) || hg_any (min y 3) (fun k => Nat.beq ((x ^^^ (y - (k + 1)) ^^^ z) &&& 3) v) || hg_any (min z 3) (fun k => Nat.beq ((x ^^^ y ^^^ (z - (k + 1))) &&& 3) v))) = true := by decide +kernel
set_option maxRecDepth 100000 in
theorem hg_c7n : ((List.range 16).all fun x => (List.range 16).all fun y => (List.range 16).all fun z => !(hg_any (min x 3) (fun k => Nat.beq (((x - (k + 1)) ^^^ y ^^^ z) &&& 3) ((x ^^^ y ^^^ z) &&& 3)) || hg_any (min y 3) (fun k => Nat.beq ((x ^^^ (y - (k + 1)) ^^^ z) &&& 3) ((x ^^^ y ^^^ z) &&& 3)) || hg_any (min z 3) (fun k => Nat.beq ((x ^^^ y ^^^ (z - (k + 1))) &&& 3) ((x ^^^ y ^^^ z) &&& 3)))) = true := by decide +kernel
set_option maxRecDepth 100000 in
theorem hg_c1 : ((List.range 16).all fun x => (List.range 16).all fun y => (List.range 16).all fun z => (hg_w1 x y z == (hg_any x (fun k => !hg_w1 k y z) || hg_any y (fun k => !hg_w1 x k z) || hg_any z (fun k => !hg_w1 x y k) || Nat.beq (x + y + z) 0))) = true := by decide +kernel
set_option maxRecDepth 100000 in
theorem hg_c4 : ((List.range 16).all fun x => (List.range 16).all fun y => (hg_w4 x y == (hg_any x (fun k => !hg_w4 k y) || hg_any y (fun k => !hg_w4 x k) || hg_any (min x y) (fun k => !hg_w4 (x - (k + 1)) (y - (k + 1)))))) = true := by decide +kernel
set_option maxRecDepth 100000 in
theorem hg_c5 : ((List.range 16).all fun x => (List.range 16).all fun y => (hg_w5 x y == (!(Nat.beq x 0 || Nat.beq y 0) && (hg_any (x / y) (fun k => !hg_w5 (x - (k + 1) * y) y) || hg_any (y / x) (fun k => !hg_w5 x (y - (k + 1) * x)))))) = true := by decide +kernel
/-! the members of the lists -/
theorem hg_mem3 {x y z : Nat} {q : hg_T} : q ∈ hg_LX 3 x y z ↔ (∃ k, k < x ∧ q = (x - (k + 1), y, z)) ∨ (∃ k, k < y ∧ q = (x + (k + 1), y - (k + 1), z)) ∨ (∃ k, k < z ∧ q = (x, y + (k + 1), z - (k + 1))) := by
  show q ∈ hg_run x (fun k => (x - (k + 1), y, z)) ++ hg_run y (fun k => (x + (k + 1), y - (k + 1), z)) ++ hg_run z (fun k => (x, y + (k + 1), z - (k + 1))) ↔ _
  rw [List.mem_append, List.mem_append, hg_mem_run, hg_mem_run, hg_mem_run, or_assoc]
theorem hg_mem4 {x y z : Nat} {q : hg_T} : q ∈ hg_LX 4 x y z ↔ (∃ k, k < x ∧ q = (x - (k + 1), y, z)) ∨ (∃ k, k < y ∧ q = (x, y - (k + 1), z)) ∨ (∃ k, k < min x y ∧ q = (x - (k + 1), y - (k + 1), z)) := by
  show q ∈ hg_run x (fun k => (x - (k + 1), y, z)) ++ hg_run y (fun k => (x, y - (k + 1), z)) ++ hg_run (min x y) (fun k => (x - (k + 1), y - (k + 1), z)) ↔ _
  rw [List.mem_append, List.mem_append, hg_mem_run, hg_mem_run, hg_mem_run, or_assoc]
theorem hg_mem5 {x y z : Nat} {q : hg_T} : q ∈ hg_LX 5 x y z ↔ ¬ (x = 0 ∨ y = 0) ∧ ((∃ k, k < x / y ∧ q = (x - (k + 1) * y, y, z)) ∨ (∃ k, k < y / x ∧ q = (x, y - (k + 1) * x, z))) := by
  show q ∈ (if x = 0 ∨ y = 0 then [] else hg_run (x / y) (fun k => (x - (k + 1) * y, y, z)) ++ hg_run (y / x) (fun k => (x, y - (k + 1) * x, z))) ↔ _
  by_cases h : x = 0 ∨ y = 0
  · rw [if_pos h]
    exact ⟨fun z => absurd z List.not_mem_nil, fun z => absurd h z.1⟩
  · rw [if_neg h, List.mem_append, hg_mem_run, hg_mem_run]
    exact ⟨fun z => ⟨h, z⟩, fun z => z.2⟩
theorem hg_memS {g x y z : Nat} {q : hg_T} (h2 : g ≠ 2) (h3 : g ≠ 3) (h4 : g ≠ 4) (h5 : g ≠ 5) : q ∈ hg_LX g x y z ↔ (∃ k, k < min x (if g = 7 then 3 else 15) ∧ q = (x - (k + 1), y, z)) ∨ (∃ k, k < min y (if g = 7 then 3 else 15) ∧ q = (x, y - (k + 1), z)) ∨ (∃ k, k < min z (if g = 7 then 3 else 15) ∧ q = (x, y, z - (k + 1))) := by
  unfold hg_LX
  rw [if_neg h2, if_neg h3, if_neg h4, if_neg h5, List.mem_append, List.mem_append, hg_mem_run, hg_mem_run, hg_mem_run, or_assoc]
theorem hg_dn (x : Nat) (hx : x ≤ 15) (P : Nat → Prop) : (∃ k, k < min x 15 ∧ P (x - (k + 1))) ↔ ∃ a, a < x ∧ P a := by
  constructor
  · rintro ⟨k, hk, h⟩
    exact ⟨_, by omega, h⟩
  · rintro ⟨a, ha, h⟩
    refine ⟨x - 1 - a, by omega, ?_⟩
    have e : x - (x - 1 - a + 1) = a := by omega
    rw [e]; exact h
theorem hg_dn' (x : Nat) (P : Nat → Prop) : (∃ k, k < x ∧ P (x - (k + 1))) ↔ ∃ a, a < x ∧ P a := by
  constructor
  · rintro ⟨k, hk, h⟩
    exact ⟨_, by omega, h⟩
  · rintro ⟨a, ha, h⟩
    refine ⟨x - 1 - a, by omega, ?_⟩
    have e : x - (x - 1 - a + 1) = a := by omega
    rw [e]; exact h
theorem hg_memN {g x y z : Nat} {q : hg_T} (hx : x ≤ 15) (hy : y ≤ 15) (hz : z ≤ 15) (h2 : g ≠ 2) (h3 : g ≠ 3) (h4 : g ≠ 4) (h5 : g ≠ 5) (h7 : g ≠ 7) : q ∈ hg_LX g x y z ↔ (∃ a, a < x ∧ q = (a, y, z)) ∨ (∃ a, a < y ∧ q = (x, a, z)) ∨ (∃ a, a < z ∧ q = (x, y, a)) := by
  rw [hg_memS h2 h3 h4 h5, if_neg h7, hg_dn x hx (fun a => q = (a, y, z)), hg_dn y hy (fun a => q = (x, a, z)), hg_dn z hz (fun a => q = (x, y, a))]
theorem hg_mem2 {x y z : Nat} {q : hg_T} : q ∈ hg_LX 2 x y z ↔ q.1 ≤ x ∧ q.2.1 ≤ y ∧ q.2.2 ≤ z ∧ (q.1 < x ∨ q.2.1 < y ∨ q.2.2 < z) ∧ (q.1 = x ∨ q.2.1 = y ∨ q.2.2 = z) := by
  show q ∈ hg_run x (fun k => (x - (k + 1), y, z)) ++ hg_run y (fun k => (x, y - (k + 1), z)) ++ hg_run z (fun k => (x, y, z - (k + 1))) ++ ((List.range x).flatMap (fun k => hg_run y (fun m => (x - (k + 1), y - (m + 1), z)) ++ hg_run z (fun m => (x - (k + 1), y, z - (m + 1)))) ++ (List.range y).flatMap (fun k => hg_run z (fun m => (x, y - (k + 1), z - (m + 1))))) ↔ _
  obtain ⟨a, b, c⟩ := q
  rw [List.mem_append, List.mem_append, List.mem_append, List.mem_append, hg_mem_run, hg_mem_run, hg_mem_run, List.mem_flatMap, List.mem_flatMap]
  constructor
  · rintro (((⟨k, hk, e⟩ | ⟨k, hk, e⟩) | ⟨k, hk, e⟩) | (⟨k, hk, h⟩ | ⟨k, hk, h⟩))
    · have := hg_pe e; dsimp only; omega
    · have := hg_pe e; dsimp only; omega
    · have := hg_pe e; dsimp only; omega
    · rw [List.mem_range] at hk
      rw [List.mem_append, hg_mem_run, hg_mem_run] at h
      rcases h with ⟨m, hm, e⟩ | ⟨m, hm, e⟩
      · have := hg_pe e; dsimp only; omega
      · have := hg_pe e; dsimp only; omega
    · rw [List.mem_range] at hk
      rw [hg_mem_run] at h
      obtain ⟨m, hm, e⟩ := h
      have := hg_pe e; dsimp only; omega
  · dsimp only
    rintro ⟨ha, hb, hc, hl, he⟩
    have et : ∀ {u a : Nat}, a < u → u - (u - 1 - a + 1) = a := by intro u a h; omega
    by_cases ea : a = x
    · by_cases eb : b = y
      · have hc' : c < z := by omega
        refine Or.inl (Or.inr ⟨z - 1 - c, by omega, ?_⟩)
        rw [et hc', ea, eb]
      · have hb' : b < y := by omega
        by_cases ec : c = z
        · refine Or.inl (Or.inl (Or.inr ⟨y - 1 - b, by omega, ?_⟩))
          rw [et hb', ea, ec]
        · have hc' : c < z := by omega
          refine Or.inr (Or.inr ⟨y - 1 - b, List.mem_range.mpr (by omega), hg_mem_run.mpr ⟨z - 1 - c, by omega, ?_⟩⟩)
          rw [et hb', et hc', ea]
    · have ha' : a < x := by omega
      by_cases eb : b = y
      · by_cases ec : c = z
        · refine Or.inl (Or.inl (Or.inl ⟨x - 1 - a, by omega, ?_⟩))
          rw [et ha', eb, ec]
        · have hc' : c < z := by omega
          refine Or.inr (Or.inl ⟨x - 1 - a, List.mem_range.mpr (by omega), List.mem_append.mpr (Or.inr (hg_mem_run.mpr ⟨z - 1 - c, by omega, ?_⟩))⟩)
          rw [et ha', et hc', eb]
      · have hb' : b < y := by omega
        have ec : c = z := by omega
        refine Or.inr (Or.inl ⟨x - 1 - a, List.mem_range.mpr (by omega), List.mem_append.mpr (Or.inl (hg_mem_run.mpr ⟨y - 1 - b, by omega, ?_⟩))⟩)
        rw [et ha', et hb', ec]
/-- a move takes away, in all games but 3 -/
theorem hg_less {g x y z : Nat} {q : hg_T} (h3 : g ≠ 3) (h : q ∈ hg_LX g x y z) : q.1 ≤ x ∧ q.2.1 ≤ y ∧ q.2.2 ≤ z ∧ (q.1 < x ∨ q.2.1 < y ∨ q.2.2 < z) := by
  by_cases h2 : g = 2
  · subst h2
    have := hg_mem2.mp h
    omega
  · by_cases h4 : g = 4
    · subst h4
      rcases hg_mem4.mp h with ⟨k, hk, rfl⟩ | ⟨k, hk, rfl⟩ | ⟨k, hk, rfl⟩ <;> (dsimp only; omega)
    · by_cases h5 : g = 5
      · subst h5
        obtain ⟨h0, h⟩ := hg_mem5.mp h
        rcases h with ⟨k, hk, rfl⟩ | ⟨k, hk, rfl⟩
        · have a1 := hg_kdiv hk
          have a2 : 1 * y ≤ (k + 1) * y := Nat.mul_le_mul_right y (by omega)
          dsimp only; omega
        · have a1 := hg_kdiv hk
          have a2 : 1 * x ≤ (k + 1) * x := Nat.mul_le_mul_right x (by omega)
          dsimp only; omega
      · rcases (hg_memS h2 h3 h4 h5).mp h with ⟨k, hk, rfl⟩ | ⟨k, hk, rfl⟩ | ⟨k, hk, rfl⟩ <;> (dsimp only; omega)
theorem hg_flat {g x y z : Nat} {q : hg_T} (hg : g = 4 ∨ g = 5) (h : q ∈ hg_LX g x y z) : q.2.2 = z := by
  rcases hg with rfl | rfl
  · rcases hg_mem4.mp h with ⟨k, hk, rfl⟩ | ⟨k, hk, rfl⟩ | ⟨k, hk, rfl⟩ <;> rfl
  · rcases (hg_mem5.mp h).2 with ⟨k, hk, rfl⟩ | ⟨k, hk, rfl⟩ <;> rfl
/-! the value is the least that no move leads to; won means that a move leads to a lost one -/
theorem hg_xx (a b : Nat) : a ^^^ b ^^^ b = a := by rw [Nat.xor_assoc, Nat.xor_self, Nat.xor_zero]
theorem hg_xc {a b c : Nat} (h : a ^^^ c = b ^^^ c) : a = b := by
  have := congrArg (· ^^^ c) h
  rw [hg_xx, hg_xx] at this
  exact this
theorem hg_xl {a b c : Nat} (h : c ^^^ a = c ^^^ b) : a = b := by
  rw [Nat.xor_comm c a, Nat.xor_comm c b] at h
  exact hg_xc h
theorem hg_mex0 {x y z : Nat} (hx : x ≤ 15) (hy : y ≤ 15) (hz : z ≤ 15) : (∀ v, v < hg_V 0 x y z → ∃ q, q ∈ hg_LX 0 x y z ∧ hg_Vq 0 q = v) ∧ (∀ q, q ∈ hg_LX 0 x y z → hg_Vq 0 q ≠ hg_V 0 x y z) := by
  have hm := fun q : hg_T => hg_memN (g := 0) (q := q) hx hy hz (by decide) (by decide) (by decide) (by decide) (by decide)
  constructor
  · intro v hv
    have h := hg_all1 (hg_all3 hg_c0 (x := x) (y := y) (z := z) (by omega) (by omega) (by omega)) hv
    rw [Bool.or_eq_true, Bool.or_eq_true] at h
    rcases h with (h | h) | h
    · refine ⟨(v ^^^ y ^^^ z, y, z), (hm _).mpr (Or.inl ⟨_, Nat.le_of_ble_eq_true h, rfl⟩), ?_⟩
      show v ^^^ y ^^^ z ^^^ y ^^^ z = v
      rw [Nat.xor_assoc v y z, Nat.xor_assoc _ y z, hg_xx]
    · refine ⟨(x, v ^^^ x ^^^ z, z), (hm _).mpr (Or.inr (Or.inl ⟨_, Nat.le_of_ble_eq_true h, rfl⟩)), ?_⟩
      show x ^^^ (v ^^^ x ^^^ z) ^^^ z = v
      rw [Nat.xor_comm x, Nat.xor_assoc _ x z, Nat.xor_assoc v x z, hg_xx]
    · refine ⟨(x, y, v ^^^ x ^^^ y), (hm _).mpr (Or.inr (Or.inr ⟨_, Nat.le_of_ble_eq_true h, rfl⟩)), ?_⟩
      show x ^^^ y ^^^ (v ^^^ x ^^^ y) = v
      rw [Nat.xor_comm (x ^^^ y), Nat.xor_assoc v x y, hg_xx]
  · intro q hq e
    rcases (hm _).mp hq with ⟨a, ha, rfl⟩ | ⟨a, ha, rfl⟩ | ⟨a, ha, rfl⟩
    · have e' : a ^^^ y ^^^ z = x ^^^ y ^^^ z := e
      have := hg_xc (hg_xc e')
      omega
    · have e' : x ^^^ a ^^^ z = x ^^^ y ^^^ z := e
      have := hg_xl (hg_xc e')
      omega
    · have e' : x ^^^ y ^^^ a = x ^^^ y ^^^ z := e
      have := hg_xl e'
      omega
theorem hg_mex7 {x y z : Nat} (hx : x ≤ 15) (hy : y ≤ 15) (hz : z ≤ 15) : (∀ v, v < hg_V 7 x y z → ∃ q, q ∈ hg_LX 7 x y z ∧ hg_Vq 7 q = v) ∧ (∀ q, q ∈ hg_LX 7 x y z → hg_Vq 7 q ≠ hg_V 7 x y z) := by
  have hm := fun q : hg_T => hg_memS (g := 7) (x := x) (y := y) (z := z) (q := q) (by decide) (by decide) (by decide) (by decide)
  constructor
  · intro v hv
    have h := hg_all1 (hg_all3 hg_c7 (x := x) (y := y) (z := z) (by omega) (by omega) (by omega)) hv
    rw [Bool.or_eq_true, Bool.or_eq_true, hg_any_iff, hg_any_iff, hg_any_iff] at h
    rcases h with (⟨k, hk, h⟩ | ⟨k, hk, h⟩) | ⟨k, hk, h⟩
    · exact ⟨_, (hm _).mpr (Or.inl ⟨k, hk, rfl⟩), hg_beqI.mp h⟩
    · exact ⟨_, (hm _).mpr (Or.inr (Or.inl ⟨k, hk, rfl⟩)), hg_beqI.mp h⟩
    · exact ⟨_, (hm _).mpr (Or.inr (Or.inr ⟨k, hk, rfl⟩)), hg_beqI.mp h⟩
  · intro q hq e
    have h := hg_all3 hg_c7n (x := x) (y := y) (z := z) (by omega) (by omega) (by omega)
    rw [Bool.not_eq_true', Bool.or_eq_false_iff, Bool.or_eq_false_iff] at h
    obtain ⟨⟨h1, h2⟩, h3⟩ := h
    rcases (hm _).mp hq with ⟨k, hk, rfl⟩ | ⟨k, hk, rfl⟩ | ⟨k, hk, rfl⟩
    · exact absurd (h1.symm.trans (hg_any_iff.mpr ⟨k, hk, hg_beqI.mpr e⟩)) (by decide)
    · exact absurd (h2.symm.trans (hg_any_iff.mpr ⟨k, hk, hg_beqI.mpr e⟩)) (by decide)
    · exact absurd (h3.symm.trans (hg_any_iff.mpr ⟨k, hk, hg_beqI.mpr e⟩)) (by decide)
def hg_K (g x y z : Nat) : Prop := hg_W g x y z = true ↔ (∃ q, q ∈ hg_LX g x y z ∧ hg_Wq g q = false) ∨ (g = 1 ∧ hg_LX g x y z = [])
theorem hg_nb {n : Nat} : (!(Nat.beq n 0)) = true ↔ n ≠ 0 := by rw [Bool.not_eq_true', hg_beqF]
theorem hg_nbF {n : Nat} : (!(Nat.beq n 0)) = false ↔ n = 0 := by rw [Bool.not_eq_false', hg_beqI]
theorem hg_Kof {g x y z : Nat} (h1 : g ≠ 1) (hw : ∀ a b c, hg_W g a b c = !(Nat.beq (hg_V g a b c) 0)) (hm : (∀ v, v < hg_V g x y z → ∃ q, q ∈ hg_LX g x y z ∧ hg_Vq g q = v) ∧ (∀ q, q ∈ hg_LX g x y z → hg_Vq g q ≠ hg_V g x y z)) : hg_K g x y z := by
  unfold hg_K
  rw [hw, hg_nb]
  constructor
  · intro h
    obtain ⟨q, hq, e⟩ := hm.1 0 (by omega)
    refine Or.inl ⟨q, hq, ?_⟩
    unfold hg_Wq
    rw [hw, hg_nbF]
    exact e
  · rintro (⟨q, hq, e⟩ | ⟨e, _⟩)
    · unfold hg_Wq at e
      rw [hw, hg_nbF] at e
      intro h0
      exact hm.2 q hq (e.trans h0.symm)
    · exact absurd e h1
theorem hg_K0 {x y z : Nat} (hx : x ≤ 15) (hy : y ≤ 15) (hz : z ≤ 15) : hg_K 0 x y z :=
  hg_Kof (by decide) (fun _ _ _ => rfl) (hg_mex0 hx hy hz)
theorem hg_K7 {x y z : Nat} (hx : x ≤ 15) (hy : y ≤ 15) (hz : z ≤ 15) : hg_K 7 x y z :=
  hg_Kof (by decide) (fun _ _ _ => rfl) (hg_mex7 hx hy hz)
theorem hg_beqB {a b : Bool} (h : (a == b) = true) : a = b := by
  cases a <;> cases b <;> first | rfl | exact Bool.noConfusion h
theorem hg_K1 {x y z : Nat} (hx : x ≤ 15) (hy : y ≤ 15) (hz : z ≤ 15) : hg_K 1 x y z := by
  have hm := fun q : hg_T => hg_memN (g := 1) (q := q) hx hy hz (by decide) (by decide) (by decide) (by decide) (by decide)
  have h := hg_beqB (hg_all3 hg_c1 (x := x) (y := y) (z := z) (by omega) (by omega) (by omega))
  unfold hg_K
  show hg_w1 x y z = true ↔ _
  rw [h, Bool.or_eq_true, Bool.or_eq_true, Bool.or_eq_true, hg_any_iff, hg_any_iff, hg_any_iff, hg_beqI]
  constructor
  · rintro (((⟨k, hk, e⟩ | ⟨k, hk, e⟩) | ⟨k, hk, e⟩) | e)
    · rw [Bool.not_eq_true'] at e
      exact Or.inl ⟨_, (hm _).mpr (Or.inl ⟨k, hk, rfl⟩), e⟩
    · rw [Bool.not_eq_true'] at e
      exact Or.inl ⟨_, (hm _).mpr (Or.inr (Or.inl ⟨k, hk, rfl⟩)), e⟩
    · rw [Bool.not_eq_true'] at e
      exact Or.inl ⟨_, (hm _).mpr (Or.inr (Or.inr ⟨k, hk, rfl⟩)), e⟩
    · refine Or.inr ⟨rfl, ?_⟩
      have e1 : x = 0 := by omega
      have e2 : y = 0 := by omega
      have e3 : z = 0 := by omega
      subst e1 e2 e3
      rfl
  · rintro (⟨q, hq, e⟩ | ⟨_, e⟩)
    · rcases (hm _).mp hq with ⟨a, ha, rfl⟩ | ⟨a, ha, rfl⟩ | ⟨a, ha, rfl⟩
      · exact Or.inl (Or.inl (Or.inl ⟨a, ha, by rw [Bool.not_eq_true']; exact e⟩))
      · exact Or.inl (Or.inl (Or.inr ⟨a, ha, by rw [Bool.not_eq_true']; exact e⟩))
      · exact Or.inl (Or.inr ⟨a, ha, by rw [Bool.not_eq_true']; exact e⟩)
    · refine Or.inr ?_
      have n1 : ¬ 0 < x := fun hp => by
        have := (hm (0, y, z)).mpr (Or.inl ⟨0, hp, rfl⟩)
        rw [e] at this
        exact List.not_mem_nil this
      have n2 : ¬ 0 < y := fun hp => by
        have := (hm (x, 0, z)).mpr (Or.inr (Or.inl ⟨0, hp, rfl⟩))
        rw [e] at this
        exact List.not_mem_nil this
      have n3 : ¬ 0 < z := fun hp => by
        have := (hm (x, y, 0)).mpr (Or.inr (Or.inr ⟨0, hp, rfl⟩))
        rw [e] at this
        exact List.not_mem_nil this
      omega
theorem hg_w2F {x y z : Nat} : hg_w2 x y z = false ↔ x = y ∧ y = z := by
  unfold hg_w2
  rw [Bool.not_eq_false', Bool.and_eq_true, hg_beqI, hg_beqI]
theorem hg_w2T {x y z : Nat} : hg_w2 x y z = true ↔ ¬ (x = y ∧ y = z) := by
  rw [← hg_w2F, Bool.not_eq_false]
theorem hg_K2 (x y z : Nat) : hg_K 2 x y z := by
  unfold hg_K
  show hg_w2 x y z = true ↔ _
  rw [hg_w2T]
  constructor
  · intro h
    refine Or.inl ⟨(min x (min y z), min x (min y z), min x (min y z)), hg_mem2.mpr ?_, hg_w2F.mpr ⟨rfl, rfl⟩⟩
    dsimp only
    omega
  · rintro (⟨q, hq, e⟩ | ⟨e, _⟩)
    · have h1 := hg_mem2.mp hq
      have h2 := hg_w2F.mp e
      omega
    · exact absurd e (by decide)
theorem hg_w3F {x z : Nat} : hg_w3 x z = false ↔ x = z := by
  unfold hg_w3
  rw [Bool.not_eq_false', hg_beqI]
theorem hg_w3T {x z : Nat} : hg_w3 x z = true ↔ x ≠ z := by
  unfold hg_w3
  rw [Bool.not_eq_true', hg_beqF]
theorem hg_K3 (x y z : Nat) : hg_K 3 x y z := by
  unfold hg_K
  show hg_w3 x z = true ↔ _
  rw [hg_w3T]
  constructor
  · intro h
    by_cases hl : z < x
    · refine Or.inl ⟨_, hg_mem3.mpr (Or.inl ⟨x - z - 1, by omega, rfl⟩), hg_w3F.mpr ?_⟩
      dsimp only
      omega
    · refine Or.inl ⟨_, hg_mem3.mpr (Or.inr (Or.inr ⟨z - x - 1, by omega, rfl⟩)), hg_w3F.mpr ?_⟩
      dsimp only
      omega
  · rintro (⟨q, hq, e⟩ | ⟨e, _⟩)
    · have h2 := hg_w3F.mp e
      rcases hg_mem3.mp hq with ⟨k, hk, rfl⟩ | ⟨k, hk, rfl⟩ | ⟨k, hk, rfl⟩ <;> (dsimp only at h2; omega)
    · exact absurd e (by decide)
theorem hg_K4 {x y z : Nat} (hx : x ≤ 15) (hy : y ≤ 15) : hg_K 4 x y z := by
  have h := hg_beqB (hg_all2 hg_c4 (x := x) (y := y) (by omega) (by omega))
  unfold hg_K
  show hg_w4 x y = true ↔ _
  rw [h, Bool.or_eq_true, Bool.or_eq_true, hg_any_iff, hg_any_iff, hg_any_iff, ← hg_dn' x (fun a => (!hg_w4 a y) = true), ← hg_dn' y (fun a => (!hg_w4 x a) = true)]
  constructor
  · rintro ((⟨k, hk, e⟩ | ⟨k, hk, e⟩) | ⟨k, hk, e⟩)
    · rw [Bool.not_eq_true'] at e
      exact Or.inl ⟨_, hg_mem4.mpr (Or.inl ⟨k, hk, rfl⟩), e⟩
    · rw [Bool.not_eq_true'] at e
      exact Or.inl ⟨_, hg_mem4.mpr (Or.inr (Or.inl ⟨k, hk, rfl⟩)), e⟩
    · rw [Bool.not_eq_true'] at e
      exact Or.inl ⟨_, hg_mem4.mpr (Or.inr (Or.inr ⟨k, hk, rfl⟩)), e⟩
  · rintro (⟨q, hq, e⟩ | ⟨e, _⟩)
    · rcases hg_mem4.mp hq with ⟨k, hk, rfl⟩ | ⟨k, hk, rfl⟩ | ⟨k, hk, rfl⟩
      · exact Or.inl (Or.inl ⟨k, hk, by rw [Bool.not_eq_true']; exact e⟩)
      · exact Or.inl (Or.inr ⟨k, hk, by rw [Bool.not_eq_true']; exact e⟩)
      · exact Or.inr ⟨k, hk, by rw [Bool.not_eq_true']; exact e⟩
    · exact absurd e (by decide)
theorem hg_K5 {x y z : Nat} (hx : x ≤ 15) (hy : y ≤ 15) : hg_K 5 x y z := by
  have h := hg_beqB (hg_all2 hg_c5 (x := x) (y := y) (by omega) (by omega))
  unfold hg_K
  show hg_w5 x y = true ↔ _
  rw [h, Bool.and_eq_true, Bool.or_eq_true, hg_any_iff, hg_any_iff, Bool.not_eq_true', Bool.or_eq_false_iff, hg_beqF, hg_beqF]
  constructor
  · rintro ⟨⟨h1, h2⟩, (⟨k, hk, e⟩ | ⟨k, hk, e⟩)⟩
    · rw [Bool.not_eq_true'] at e
      exact Or.inl ⟨_, hg_mem5.mpr ⟨by omega, Or.inl ⟨k, hk, rfl⟩⟩, e⟩
    · rw [Bool.not_eq_true'] at e
      exact Or.inl ⟨_, hg_mem5.mpr ⟨by omega, Or.inr ⟨k, hk, rfl⟩⟩, e⟩
  · rintro (⟨q, hq, e⟩ | ⟨e, _⟩)
    · obtain ⟨h0, hq⟩ := hg_mem5.mp hq
      refine ⟨⟨by omega, by omega⟩, ?_⟩
      rcases hq with ⟨k, hk, rfl⟩ | ⟨k, hk, rfl⟩
      · exact Or.inl ⟨k, hk, by rw [Bool.not_eq_true']; exact e⟩
      · exact Or.inr ⟨k, hk, by rw [Bool.not_eq_true']; exact e⟩
    · exact absurd e (by decide)
theorem hg_Kall {g x y z : Nat} (hg : g < 8) (h6 : g ≠ 6) (h : g = 3 ∨ (x ≤ 15 ∧ y ≤ 15 ∧ z ≤ 15)) : hg_K g x y z := by
  rcases h with rfl | ⟨hx, hy, hz⟩
  · exact hg_K3 x y z
  · have : g = 0 ∨ g = 1 ∨ g = 2 ∨ g = 3 ∨ g = 4 ∨ g = 5 ∨ g = 7 := by omega
    rcases this with rfl | rfl | rfl | rfl | rfl | rfl | rfl
    · exact hg_K0 hx hy hz
    · exact hg_K1 hx hy hz
    · exact hg_K2 x y z
    · exact hg_K3 x y z
    · exact hg_K4 hx hy
    · exact hg_K5 hx hy
    · exact hg_K7 hx hy hz
theorem hg_V16 {g x y z : Nat} (hx : x ≤ 15) (hy : y ≤ 15) (hz : z ≤ 15) : hg_V g x y z < 16 := by
  unfold hg_V
  by_cases h0 : g = 0
  · rw [if_pos h0]
    exact Nat.xor_lt_two_pow (n := 4) (Nat.xor_lt_two_pow (n := 4) (by omega) (by omega)) (by omega)
  · rw [if_neg h0]
    by_cases h7 : g = 7
    · rw [if_pos h7]
      exact Nat.lt_of_le_of_lt Nat.and_le_right (by decide)
    · rw [if_neg h7]
      decide
/-- the least number that no move leads to, with the values of game g -/
theorem hg_mexall {g x y z : Nat} (hg : g < 8) (h : g = 3 ∨ (x ≤ 15 ∧ y ≤ 15 ∧ z ≤ 15)) : ∃ m, m ≤ 16 ∧ (∀ v, v < m → ∃ q, q ∈ hg_LX g x y z ∧ hg_Vq g q = v) ∧ (∀ q, q ∈ hg_LX g x y z → hg_Vq g q ≠ m) ∧ ((g = 0 ∨ g = 7) → m = hg_V g x y z) := by
  by_cases h0 : g = 0
  · subst h0
    rcases h with h | ⟨hx, hy, hz⟩
    · exact absurd h (by decide)
    · have hm := hg_mex0 hx hy hz
      have h16 := hg_V16 (g := 0) hx hy hz
      exact ⟨hg_V 0 x y z, by omega, hm.1, hm.2, fun _ => rfl⟩
  · by_cases h7 : g = 7
    · subst h7
      rcases h with h | ⟨hx, hy, hz⟩
      · exact absurd h (by decide)
      · have hm := hg_mex7 hx hy hz
        have h16 := hg_V16 (g := 7) hx hy hz
        exact ⟨hg_V 7 x y z, by omega, hm.1, hm.2, fun _ => rfl⟩
    · have hv : ∀ q, hg_Vq g q = 0 := by
        intro q
        unfold hg_Vq hg_V
        rw [if_neg h0, if_neg h7]
      cases hL : hg_LX g x y z with
      | nil => exact ⟨0, by omega, fun v hv => absurd hv (by omega), fun q hq => absurd hq List.not_mem_nil, fun h => absurd h (by omega)⟩
      | cons p l =>
        refine ⟨1, by omega, fun v h1 => ⟨p, List.mem_cons_self, ?_⟩, fun q _ => ?_, fun h => absurd h (by omega)⟩
        · rw [hv]; omega
        · rw [hv]; omega
