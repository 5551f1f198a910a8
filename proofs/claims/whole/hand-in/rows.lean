section
theorem pk_us {f : Nat → Int32} {k : Nat} {x : Int32} : upd f k x k = x := if_pos rfl
theorem pk_un {f : Nat → Int32} {k j : Nat} {x : Int32} (h : j ≠ k) : upd f k x j = f j := if_neg h
theorem pk_sub {a b : Nat} (h : b ≤ a) : nI a - nI b = nI (a - b) := by
  obtain ⟨c, rfl⟩ : ∃ c, a = c + b := ⟨a - b, by omega⟩
  rw [← nI_add, Int32.add_sub_cancel, Nat.add_sub_cancel]
theorem pk_m1 (n : Nat) : nI (n + 1) + (-1) = nI n := by
  rw [← nI_1, Int32.add_assoc, show (1 : Int32) + (-1) = 0 from rfl, Int32.add_zero]
theorem pk_mul (a b : Nat) : nI a * nI b = nI (a * b) := (Int32.ofNat_mul a b).symm
theorem pk_div {a d : Nat} (ha : a < 2 ^ 31) (h0 : 0 < d) (hd : d < 2 ^ 31) : nI a / nI d = nI (a / d) := by
  apply Int32.toInt_inj.mp
  rw [lg_idiv_nonneg (by rw [nI_toInt ha]; omega) (by rw [nI_toInt hd]; omega), nI_toInt ha, nI_toInt hd, nI_toInt (Nat.lt_of_le_of_lt (Nat.div_le_self a d) ha)]
  first | rfl | exact (Int.natCast_ediv _ _).symm
theorem pk_rem {a d : Nat} (ha : a < 2 ^ 31) (h0 : 0 < d) (hd : d < 2 ^ 31) : nI a - nI a / nI d * nI d = nI (a % d) := by
  rw [pk_div ha h0 hd, pk_mul, pk_sub (Nat.div_mul_le_self a d)]
  exact congrArg nI (by have := Nat.div_add_mod' a d; omega)
theorem pk_sub_toInt {a b : Nat} (ha : a < 2 ^ 30) (hb : b < 2 ^ 30) : (nI a - nI b).toInt = (a : Int) - b := by
  rw [Int32.toInt_sub, nI_toInt (by omega), nI_toInt (by omega)]
  exact Int.bmod_eq_of_le (by omega) (by omega)
theorem pk_sneg {a b : Nat} (hb : b < 2 ^ 30) (h : a < b) : nI a - nI b < 0 := by
  rw [Int32.lt_iff_toInt_lt, pk_sub_toInt (by omega) hb, show (0 : Int32).toInt = 0 from by decide]
  omega
theorem pk_ix (x : Int32) {n : Nat} (hn : n < 2 ^ 31) : x < 0 ∨ nI n ≤ x ∨ ∃ j : Nat, j < n ∧ x = nI j := by
  by_cases h : x < 0
  · exact Or.inl h
  · obtain ⟨j, hj, rfl⟩ := nI_of h
    by_cases h2 : j < n
    · exact Or.inr (Or.inr ⟨j, h2, rfl⟩)
    · exact Or.inr (Or.inl (nI_le (by omega) hj))
theorem pk_le {x y : Int32} {A B : Prop} (a b : Nat) (f : a ≤ b → A) (g : b < a → B) (hx : x = nI a := by rfl) (hy : y = nI b := by rfl) (ha : a < 2 ^ 31 := by omega) (hb : b < 2 ^ 31 := by omega) : (x ≤ y → A) ∧ (¬ x ≤ y → B) := by
  subst hx hy
  rw [nI_leI ha hb]
  exact ⟨f, fun z => g (by omega)⟩
theorem pk_lt {x y : Int32} {A B : Prop} (a b : Nat) (f : a < b → A) (g : b ≤ a → B) (hx : x = nI a := by rfl) (hy : y = nI b := by rfl) (ha : a < 2 ^ 31 := by omega) (hb : b < 2 ^ 31 := by omega) : (x < y → A) ∧ (¬ x < y → B) := by
  subst hx hy
  rw [nI_ltI ha hb]
  exact ⟨f, fun z => g (by omega)⟩
theorem pk_eq {x y : Int32} {A B : Prop} (a b : Nat) (f : a = b → A) (g : a ≠ b → B) (hx : x = nI a := by rfl) (hy : y = nI b := by rfl) (ha : a < 2 ^ 31 := by omega) (hb : b < 2 ^ 31 := by omega) : (x = y → A) ∧ (¬ x = y → B) := by
  subst hx hy
  rw [nI_eq ha hb]
  exact ⟨f, g⟩
theorem pk_in {x : Int32} (n N : Nat) (h : n < N) (hx : x = nI n := by rfl) (hN : N < 2 ^ 31 := by omega) : vp_in x N := by
  subst hx
  exact vp_in_nI h hN
theorem pk_cl {x : Int32} (n : Nat) (hx : x = nI n := by rfl) (h : n < 2 ^ 31 := by omega) : x.toNatClampNeg = n := by
  subst hx
  exact nI_clamp h
theorem pk_tn {n : Nat} (h : n < 2 ^ 32) : (nI n).toBitVec.toNat = n := Nat.mod_eq_of_lt h
theorem pk_loop {σ : Type} (W : Nat → Nat → σ → Prop) (I : Nat → σ → Prop) (e i0 : Nat) (s : σ) (hi : i0 ≤ e) (h0 : I i0 s) (hx : ∀ n s, I e s → W (n + 1) e s)
    (hs : ∀ n i s, i < e → I i s → (∀ s', I (i + 1) s' → W n (i + 1) s') → W (n + 1) i s) : ∃ n, W n i0 s :=
  ⟨e + 1, loop_i W I e hx hs (e + 1) i0 s hi (by omega) h0⟩
theorem pk_loopD {σ : Type} (W : Nat → Nat → σ → Prop) (I : Nat → σ → Prop) (hx : ∀ n s, I 0 s → W (n + 1) 0 s)
    (hs : ∀ n i s, I (i + 1) s → (∀ s', I i s' → W n i s') → W (n + 1) (i + 1) s) : ∀ (e : Nat) (s : σ), I e s → W (e + 1) e s := by
  intro e
  induction e with
  | zero => exact fun s h => hx 0 s h
  | succ e ih => exact fun s h => hs (e + 1) e s h (fun s' h' => ih s' h')
theorem ek_if {c d A B : Prop} (e : c ↔ d) (f : d → A) (g : ¬ d → B) : (c → A) ∧ (¬ c → B) :=
  ⟨fun z => f (e.mp z), fun z => g (fun y => z (e.mpr y))⟩
theorem ek_v {α : Sort _} {P : α → Prop} {a b : α} (e : a = b) (h : P b) : P a := e ▸ h
theorem nx_and (a b : Nat) : nI a &&& nI b = nI (a &&& b) := by
  apply Int32.toBitVec_inj.1
  show BitVec.ofNat 32 a &&& BitVec.ofNat 32 b = BitVec.ofNat 32 (a &&& b)
  apply BitVec.eq_of_getLsbD_eq
  intro i hi
  simp [hi]
theorem nx_xor (a b : Nat) : nI a ^^^ nI b = nI (a ^^^ b) := by
  apply Int32.toBitVec_inj.1
  show BitVec.ofNat 32 a ^^^ BitVec.ofNat 32 b = BitVec.ofNat 32 (a ^^^ b)
  apply BitVec.eq_of_getLsbD_eq
  intro i hi
  simp [hi]
end
section
abbrev hg_T : Type := Nat × Nat × Nat
def hg_num (p : hg_T) : Nat := p.1 + 32 * p.2.1 + 1024 * p.2.2
def hg_run (n : Nat) (f : Nat → hg_T) : List hg_T := (List.range n).map f
def hg_o (c : Prop) [Decidable c] (p : hg_T) : List hg_T := if c then [p] else []
theorem hg_fs {α β : Type} (f : α → β) : ∀ l : List α, l.flatMap (fun k => [f k]) = l.map f
  | [] => rfl
  | a :: l => by rw [List.flatMap_cons, List.map_cons, hg_fs f l]; rfl
theorem hg_mem_run {n : Nat} {f : Nat → hg_T} {q : hg_T} : q ∈ hg_run n f ↔ ∃ k, k < n ∧ q = f k := by
  unfold hg_run
  rw [List.mem_map]
  constructor
  · rintro ⟨k, hk, rfl⟩
    exact ⟨k, List.mem_range.mp hk, rfl⟩
  · rintro ⟨k, hk, rfl⟩
    exact ⟨k, List.mem_range.mpr hk, rfl⟩
theorem hg_run_0 (f : Nat → hg_T) : hg_run 0 f = [] := rfl
theorem hg_run_s (n : Nat) (f : Nat → hg_T) : hg_run (n + 1) f = hg_run n f ++ [f n] := by
  unfold hg_run
  rw [List.range_succ, List.map_append]
  rfl
theorem hg_run_len (n : Nat) (f : Nat → hg_T) : (hg_run n f).length = n := by
  unfold hg_run
  rw [List.length_map, List.length_range]
theorem hg_flat_app {α β : Type} (f g : α → List β) : ∀ l : List α, List.Perm (l.flatMap (fun a => f a ++ g a)) (l.flatMap f ++ l.flatMap g)
  | [] => List.Perm.refl _
  | a :: l => by
    simp only [List.flatMap_cons]
    refine (List.Perm.append_left (f a ++ g a) (hg_flat_app f g l)).trans ?_
    simp only [List.append_assoc]
    exact List.Perm.append_left _ (List.perm_append_comm_assoc _ _ _)
theorem hg_flat3 {α β : Type} (a b c : α → List β) (l : List α) : List.Perm (l.flatMap (fun k => a k ++ b k ++ c k)) (l.flatMap a ++ l.flatMap b ++ l.flatMap c) :=
  (hg_flat_app (fun k => a k ++ b k) c l).trans (List.Perm.append_right _ (hg_flat_app a b l))
theorem hg_flat4 {α β : Type} (a b c d : α → List β) (l : List α) : List.Perm (l.flatMap (fun k => a k ++ b k ++ c k ++ d k)) (l.flatMap a ++ l.flatMap b ++ l.flatMap c ++ l.flatMap d) :=
  (hg_flat_app (fun k => a k ++ b k ++ c k) d l).trans (List.Perm.append_right _ (hg_flat3 a b c l))
theorem hg_flat_cg {α β : Type} {f g : α → List β} (h : ∀ a, List.Perm (f a) (g a)) : ∀ l : List α, List.Perm (l.flatMap f) (l.flatMap g)
  | [] => List.Perm.refl _
  | a :: l => by
    simp only [List.flatMap_cons]
    exact List.Perm.append (h a) (hg_flat_cg h l)
theorem hg_flat_nil {α β : Type} : ∀ l : List α, l.flatMap (fun _ => ([] : List β)) = []
  | [] => rfl
  | a :: l => by rw [List.flatMap_cons, hg_flat_nil l]; rfl
theorem hg_of {β : Type} (n : Nat) (g : Nat → List β) : ∀ m, (List.range m).flatMap (fun k => if k + 1 ≤ n then g k else []) = (List.range (min n m)).flatMap g
  | 0 => by
    have e : min n 0 = 0 := by omega
    rw [e]; rfl
  | m + 1 => by
    rw [List.range_succ, List.flatMap_append, hg_of n g m, List.flatMap_singleton]
    by_cases h : m + 1 ≤ n
    · have e : min n (m + 1) = m + 1 := by omega
      have e2 : min n m = m := by omega
      rw [e, e2, List.range_succ, List.flatMap_append, List.flatMap_singleton, if_pos h]
    · have e : min n (m + 1) = min n m := by omega
      rw [e, if_neg h, List.append_nil]
theorem hg_of1 (n : Nat) (f : Nat → hg_T) (m : Nat) : (List.range m).flatMap (fun k => hg_o (k + 1 ≤ n) (f k)) = hg_run (min n m) f := by
  have h := hg_of n (fun k => [f k]) m
  rw [hg_fs] at h
  exact h
theorem hg_of2 (k x y : Nat) (d : Nat → hg_T) (hy : y ≤ 15) : (List.range 15).flatMap (fun m => hg_o (k + 1 ≤ x ∧ m + 1 ≤ y) (d m)) = if k + 1 ≤ x then hg_run y d else [] := by
  by_cases h : k + 1 ≤ x
  · rw [if_pos h]
    have e : (fun m => hg_o (k + 1 ≤ x ∧ m + 1 ≤ y) (d m)) = fun m => hg_o (m + 1 ≤ y) (d m) := by
      funext m
      unfold hg_o
      by_cases h2 : m + 1 ≤ y
      · rw [if_pos ⟨h, h2⟩, if_pos h2]
      · rw [if_neg (fun z => h2 z.2), if_neg h2]
    rw [e, hg_of1]
    have e2 : min y 15 = y := by omega
    rw [e2]
  · rw [if_neg h]
    have e : (fun m => hg_o (k + 1 ≤ x ∧ m + 1 ≤ y) (d m)) = fun _ => [] := by
      funext m
      unfold hg_o
      rw [if_neg (fun z => h z.1)]
    rw [e, hg_flat_nil]
/-! the lists of moves -/
def hg_LX (g x y z : Nat) : List hg_T :=
  if g = 2 then hg_run x (fun k => (x - (k + 1), y, z)) ++ hg_run y (fun k => (x, y - (k + 1), z)) ++ hg_run z (fun k => (x, y, z - (k + 1))) ++ ((List.range x).flatMap (fun k => hg_run y (fun m => (x - (k + 1), y - (m + 1), z)) ++ hg_run z (fun m => (x - (k + 1), y, z - (m + 1)))) ++ (List.range y).flatMap (fun k => hg_run z (fun m => (x, y - (k + 1), z - (m + 1)))))
  else if g = 3 then hg_run x (fun k => (x - (k + 1), y, z)) ++ hg_run y (fun k => (x + (k + 1), y - (k + 1), z)) ++ hg_run z (fun k => (x, y + (k + 1), z - (k + 1)))
  else if g = 4 then hg_run x (fun k => (x - (k + 1), y, z)) ++ hg_run y (fun k => (x, y - (k + 1), z)) ++ hg_run (min x y) (fun k => (x - (k + 1), y - (k + 1), z))
  else if g = 5 then (if x = 0 ∨ y = 0 then [] else hg_run (x / y) (fun k => (x - (k + 1) * y, y, z)) ++ hg_run (y / x) (fun k => (x, y - (k + 1) * x, z)))
  else hg_run (min x (if g = 7 then 3 else 15)) (fun k => (x - (k + 1), y, z)) ++ hg_run (min y (if g = 7 then 3 else 15)) (fun k => (x, y - (k + 1), z)) ++ hg_run (min z (if g = 7 then 3 else 15)) (fun k => (x, y, z - (k + 1)))
def hg_two (x y z k m : Nat) : List hg_T := hg_o (k + 1 ≤ x ∧ m + 1 ≤ y) (x - (k + 1), y - (m + 1), z) ++ hg_o (k + 1 ≤ x ∧ m + 1 ≤ z) (x - (k + 1), y, z - (m + 1)) ++ hg_o (k + 1 ≤ y ∧ m + 1 ≤ z) (x, y - (k + 1), z - (m + 1))
def hg_stp (g x y z k : Nat) : List hg_T := hg_o (k + 1 ≤ x) (x - (k + 1), y, z) ++ hg_o (k + 1 ≤ y) (x, y - (k + 1), z) ++ hg_o (k + 1 ≤ z) (x, y, z - (k + 1)) ++ (if g = 2 then (List.range 15).flatMap (hg_two x y z k) else [])
def hg_LY (g x y z : Nat) : List hg_T :=
  if g = 3 then hg_run z (fun k => (x, y + (k + 1), z - (k + 1))) ++ hg_run y (fun k => (x + (k + 1), y - (k + 1), z)) ++ hg_run x (fun k => (x - (k + 1), y, z))
  else if g = 4 then hg_LX 4 x y z
  else if g = 5 then hg_LX 5 x y z
  else (List.range (if g = 7 then 3 else 15)).flatMap (hg_stp g x y z)
theorem hg_perm2 (x y z : Nat) (hx : x ≤ 15) (hy : y ≤ 15) (hz : z ≤ 15) : List.Perm (hg_LY 2 x y z) (hg_LX 2 x y z) := by
  have ex : min x 15 = x := by omega
  have ey : min y 15 = y := by omega
  have ez : min z 15 = z := by omega
  show List.Perm ((List.range 15).flatMap (fun k => hg_o (k + 1 ≤ x) (x - (k + 1), y, z) ++ hg_o (k + 1 ≤ y) (x, y - (k + 1), z) ++ hg_o (k + 1 ≤ z) (x, y, z - (k + 1)) ++ (List.range 15).flatMap (hg_two x y z k))) _
  refine (hg_flat4 _ _ _ _ _).trans ?_
  rw [hg_of1, hg_of1, hg_of1, ex, ey, ez]
  refine List.Perm.append_left _ ?_
  have h1 : ∀ k, List.Perm ((List.range 15).flatMap (hg_two x y z k)) ((if k + 1 ≤ x then hg_run y (fun m => (x - (k + 1), y - (m + 1), z)) else []) ++ (if k + 1 ≤ x then hg_run z (fun m => (x - (k + 1), y, z - (m + 1))) else []) ++ (if k + 1 ≤ y then hg_run z (fun m => (x, y - (k + 1), z - (m + 1))) else [])) := by
    intro k
    have h := hg_flat3 (fun m => hg_o (k + 1 ≤ x ∧ m + 1 ≤ y) (x - (k + 1), y - (m + 1), z)) (fun m => hg_o (k + 1 ≤ x ∧ m + 1 ≤ z) (x - (k + 1), y, z - (m + 1))) (fun m => hg_o (k + 1 ≤ y ∧ m + 1 ≤ z) (x, y - (k + 1), z - (m + 1))) (List.range 15)
    rw [hg_of2 k x y _ hy, hg_of2 k x z _ hz, hg_of2 k y z _ hz] at h
    exact h
  refine (hg_flat_cg h1 _).trans ?_
  refine (hg_flat3 _ _ _ _).trans ?_
  rw [hg_of x, hg_of x, hg_of y, ex, ey]
  exact List.Perm.append_right _ (hg_flat_app _ _ _).symm
theorem hg_permS (g x y z : Nat) (h2 : g ≠ 2) (h3 : g ≠ 3) (h4 : g ≠ 4) (h5 : g ≠ 5) : List.Perm (hg_LY g x y z) (hg_LX g x y z) := by
  have eY : hg_LY g x y z = (List.range (if g = 7 then 3 else 15)).flatMap (fun k => hg_o (k + 1 ≤ x) (x - (k + 1), y, z) ++ hg_o (k + 1 ≤ y) (x, y - (k + 1), z) ++ hg_o (k + 1 ≤ z) (x, y, z - (k + 1))) := by
    unfold hg_LY
    rw [if_neg h3, if_neg h4, if_neg h5]
    congr 1
    funext k
    unfold hg_stp
    rw [if_neg h2, List.append_nil]
  have eX : hg_LX g x y z = hg_run (min x (if g = 7 then 3 else 15)) (fun k => (x - (k + 1), y, z)) ++ hg_run (min y (if g = 7 then 3 else 15)) (fun k => (x, y - (k + 1), z)) ++ hg_run (min z (if g = 7 then 3 else 15)) (fun k => (x, y, z - (k + 1))) := by
    unfold hg_LX
    rw [if_neg h2, if_neg h3, if_neg h4, if_neg h5]
  rw [eY, eX]
  refine (hg_flat3 _ _ _ _).trans ?_
  rw [hg_of1, hg_of1, hg_of1]
theorem hg_perm3 (x y z : Nat) : List.Perm (hg_LY 3 x y z) (hg_LX 3 x y z) := by
  show List.Perm (hg_run z (fun k => (x, y + (k + 1), z - (k + 1))) ++ hg_run y (fun k => (x + (k + 1), y - (k + 1), z)) ++ hg_run x (fun k => (x - (k + 1), y, z))) (hg_run x (fun k => (x - (k + 1), y, z)) ++ hg_run y (fun k => (x + (k + 1), y - (k + 1), z)) ++ hg_run z (fun k => (x, y + (k + 1), z - (k + 1))))
  refine List.perm_append_comm.trans ?_
  rw [List.append_assoc]
  exact List.Perm.append_left _ List.perm_append_comm
theorem hg_perm (g x y z : Nat) (hx : x ≤ 15) (hy : y ≤ 15) (hz : z ≤ 15) : List.Perm (hg_LY g x y z) (hg_LX g x y z) := by
  by_cases h2 : g = 2
  · subst h2; exact hg_perm2 x y z hx hy hz
  · by_cases h3 : g = 3
    · subst h3; exact hg_perm3 x y z
    · by_cases h4 : g = 4
      · subst h4; exact List.Perm.refl _
      · by_cases h5 : g = 5
        · subst h5; exact List.Perm.refl _
        · exact hg_permS g x y z h2 h3 h4 h5
/-- the lists agree up to order where judge lists them -/
theorem hg_permJ (g x y z : Nat) (h2 : g ≠ 2) : List.Perm (hg_LY g x y z) (hg_LX g x y z) := by
  by_cases h3 : g = 3
  · subst h3; exact hg_perm3 x y z
  · by_cases h4 : g = 4
    · subst h4; exact List.Perm.refl _
    · by_cases h5 : g = 5
      · subst h5; exact List.Perm.refl _
      · exact hg_permS g x y z h2 h3 h4 h5
/-! no move twice -/
theorem hg_nd_run {n : Nat} {f : Nat → hg_T} (h : ∀ i j, i < n → j < n → f i = f j → i = j) : (hg_run n f).Nodup := by
  induction n with
  | zero => exact List.Pairwise.nil
  | succ n ih =>
    rw [hg_run_s, List.nodup_append]
    refine ⟨ih (fun i j hi hj e => h i j (by omega) (by omega) e), List.pairwise_singleton _ _, ?_⟩
    intro a ha b hb e
    obtain ⟨k, hk, rfl⟩ := hg_mem_run.mp ha
    rw [List.mem_singleton] at hb
    have := h k n (by omega) (by omega) (e.trans hb)
    omega
theorem hg_nd_flat {n : Nat} {f : Nat → List hg_T} (h1 : ∀ i, i < n → (f i).Nodup) (h2 : ∀ i j a, i < j → j < n → a ∈ f i → a ∈ f j → False) : ((List.range n).flatMap f).Nodup := by
  induction n with
  | zero => exact List.Pairwise.nil
  | succ n ih =>
    rw [List.range_succ, List.flatMap_append, List.flatMap_singleton, List.nodup_append]
    refine ⟨ih (fun i hi => h1 i (by omega)) (fun i j a hi hj => h2 i j a hi (by omega)), h1 n (by omega), ?_⟩
    intro a ha b hb e
    obtain ⟨k, hk, hka⟩ := List.mem_flatMap.mp ha
    subst e
    exact h2 k n a (List.mem_range.mp hk) (by omega) hka hb
theorem hg_pe {a b c a' b' c' : Nat} (h : ((a, b, c) : hg_T) = (a', b', c')) : a = a' ∧ b = b' ∧ c = c' := by
  cases h
  exact ⟨rfl, rfl, rfl⟩
theorem hg_nd2 (x y z : Nat) : (hg_LX 2 x y z).Nodup := by
  show (hg_run x (fun k => (x - (k + 1), y, z)) ++ hg_run y (fun k => (x, y - (k + 1), z)) ++ hg_run z (fun k => (x, y, z - (k + 1))) ++ ((List.range x).flatMap (fun k => hg_run y (fun m => (x - (k + 1), y - (m + 1), z)) ++ hg_run z (fun m => (x - (k + 1), y, z - (m + 1)))) ++ (List.range y).flatMap (fun k => hg_run z (fun m => (x, y - (k + 1), z - (m + 1)))))).Nodup
  have rA : (hg_run x (fun k => (x - (k + 1), y, z))).Nodup := hg_nd_run (fun i j hi hj e => by have := hg_pe e; omega)
  have rB : (hg_run y (fun k => (x, y - (k + 1), z))).Nodup := hg_nd_run (fun i j hi hj e => by have := hg_pe e; omega)
  have rC : (hg_run z (fun k => (x, y, z - (k + 1)))).Nodup := hg_nd_run (fun i j hi hj e => by have := hg_pe e; omega)
  rw [List.nodup_append, List.nodup_append, List.nodup_append, List.nodup_append]
  refine ⟨⟨⟨rA, rB, ?_⟩, rC, ?_⟩, ⟨?_, ?_, ?_⟩, ?_⟩
  · intro a ha b hb e
    subst e
    obtain ⟨k, hk, e1⟩ := hg_mem_run.mp ha
    obtain ⟨m, hm, e2⟩ := hg_mem_run.mp hb
    have := hg_pe (e1.symm.trans e2)
    omega
  · intro a ha b hb e
    subst e
    obtain ⟨m, hm, e2⟩ := hg_mem_run.mp hb
    rw [List.mem_append] at ha
    rcases ha with ha | ha
    · obtain ⟨k, hk, e1⟩ := hg_mem_run.mp ha
      have := hg_pe (e1.symm.trans e2)
      omega
    · obtain ⟨k, hk, e1⟩ := hg_mem_run.mp ha
      have := hg_pe (e1.symm.trans e2)
      omega
  · refine hg_nd_flat (fun k hk => ?_) ?_
    · rw [List.nodup_append]
      refine ⟨hg_nd_run (fun i j hi hj e => by have := hg_pe e; omega), hg_nd_run (fun i j hi hj e => by have := hg_pe e; omega), ?_⟩
      intro a ha b hb e
      subst e
      obtain ⟨i, hi, e1⟩ := hg_mem_run.mp ha
      obtain ⟨m, hm, e2⟩ := hg_mem_run.mp hb
      have := hg_pe (e1.symm.trans e2)
      omega
    · intro i j a hij hj ha hb
      rw [List.mem_append] at ha hb
      rcases ha with ha | ha <;> rcases hb with hb | hb <;> (obtain ⟨k, hk, e1⟩ := hg_mem_run.mp ha; obtain ⟨m, hm, e2⟩ := hg_mem_run.mp hb; have := hg_pe (e1.symm.trans e2); omega)
  · refine hg_nd_flat (fun k hk => hg_nd_run (fun i j hi hj e => by have := hg_pe e; omega)) ?_
    intro i j a hij hj ha hb
    obtain ⟨k, hk, e1⟩ := hg_mem_run.mp ha
    obtain ⟨m, hm, e2⟩ := hg_mem_run.mp hb
    have := hg_pe (e1.symm.trans e2)
    omega
  · intro a ha b hb e
    subst e
    obtain ⟨k, hk, ha⟩ := List.mem_flatMap.mp ha
    obtain ⟨l, hl, hb⟩ := List.mem_flatMap.mp hb
    rw [List.mem_range] at hk hl
    obtain ⟨m, hm, e2⟩ := hg_mem_run.mp hb
    rw [List.mem_append] at ha
    rcases ha with ha | ha <;> (obtain ⟨i, hi, e1⟩ := hg_mem_run.mp ha; have := hg_pe (e1.symm.trans e2); omega)
  · intro a ha b hb e
    subst e
    rw [List.mem_append] at hb
    have h2 : (∃ i m, i < x ∧ m < y ∧ a = (x - (i + 1), y - (m + 1), z)) ∨ (∃ i m, i < x ∧ m < z ∧ a = (x - (i + 1), y, z - (m + 1))) ∨ (∃ i m, i < y ∧ m < z ∧ a = (x, y - (i + 1), z - (m + 1))) := by
      rcases hb with hb | hb
      · obtain ⟨k, hk, hb⟩ := List.mem_flatMap.mp hb
        rw [List.mem_range] at hk
        rw [List.mem_append] at hb
        rcases hb with hb | hb
        · obtain ⟨m, hm, e2⟩ := hg_mem_run.mp hb
          exact Or.inl ⟨k, m, hk, hm, e2⟩
        · obtain ⟨m, hm, e2⟩ := hg_mem_run.mp hb
          exact Or.inr (Or.inl ⟨k, m, hk, hm, e2⟩)
      · obtain ⟨k, hk, hb⟩ := List.mem_flatMap.mp hb
        rw [List.mem_range] at hk
        obtain ⟨m, hm, e2⟩ := hg_mem_run.mp hb
        exact Or.inr (Or.inr ⟨k, m, hk, hm, e2⟩)
    rw [List.mem_append, List.mem_append] at ha
    rcases ha with (ha | ha) | ha <;> rcases h2 with ⟨i, m, hi, hm, e2⟩ | ⟨i, m, hi, hm, e2⟩ | ⟨i, m, hi, hm, e2⟩ <;> (obtain ⟨k, hk, e1⟩ := hg_mem_run.mp ha; have := hg_pe (e1.symm.trans e2); omega)
theorem hg_nd3 {n1 n2 n3 : Nat} {f1 f2 f3 : Nat → hg_T} (h1 : ∀ i j, i < n1 → j < n1 → f1 i = f1 j → i = j) (h2 : ∀ i j, i < n2 → j < n2 → f2 i = f2 j → i = j) (h3 : ∀ i j, i < n3 → j < n3 → f3 i = f3 j → i = j) (h12 : ∀ i j, i < n1 → j < n2 → f1 i = f2 j → False) (h13 : ∀ i j, i < n1 → j < n3 → f1 i = f3 j → False) (h23 : ∀ i j, i < n2 → j < n3 → f2 i = f3 j → False) : (hg_run n1 f1 ++ hg_run n2 f2 ++ hg_run n3 f3).Nodup := by
  rw [List.nodup_append, List.nodup_append]
  refine ⟨⟨hg_nd_run h1, hg_nd_run h2, ?_⟩, hg_nd_run h3, ?_⟩
  · intro a ha b hb e
    subst e
    obtain ⟨k, hk, e1⟩ := hg_mem_run.mp ha
    obtain ⟨m, hm, e2⟩ := hg_mem_run.mp hb
    exact h12 k m hk hm (e1.symm.trans e2)
  · intro a ha b hb e
    subst e
    obtain ⟨m, hm, e2⟩ := hg_mem_run.mp hb
    rw [List.mem_append] at ha
    rcases ha with ha | ha
    · obtain ⟨k, hk, e1⟩ := hg_mem_run.mp ha
      exact h13 k m hk hm (e1.symm.trans e2)
    · obtain ⟨k, hk, e1⟩ := hg_mem_run.mp ha
      exact h23 k m hk hm (e1.symm.trans e2)
theorem hg_kdiv {k x y : Nat} (h : k < x / y) : (k + 1) * y ≤ x :=
  Nat.le_trans (Nat.mul_le_mul_right y h) (Nat.div_mul_le_self x y)
theorem hg_nd5 (x y z : Nat) : (hg_LX 5 x y z).Nodup := by
  show (if x = 0 ∨ y = 0 then [] else hg_run (x / y) (fun k => (x - (k + 1) * y, y, z)) ++ hg_run (y / x) (fun k => (x, y - (k + 1) * x, z))).Nodup
  by_cases h : x = 0 ∨ y = 0
  · rw [if_pos h]; exact List.Pairwise.nil
  · rw [if_neg h, List.nodup_append]
    have hx : 0 < x := by omega
    have hy : 0 < y := by omega
    refine ⟨hg_nd_run ?_, hg_nd_run ?_, ?_⟩
    · intro i j hi hj e
      have e1 := (hg_pe e).1
      have a1 := hg_kdiv hi
      have a2 := hg_kdiv hj
      have e2 : (i + 1) * y = (j + 1) * y := by omega
      have := Nat.eq_of_mul_eq_mul_right hy e2
      omega
    · intro i j hi hj e
      have e1 := (hg_pe e).2.1
      have a1 := hg_kdiv hi
      have a2 := hg_kdiv hj
      have e2 : (i + 1) * x = (j + 1) * x := by omega
      have := Nat.eq_of_mul_eq_mul_right hx e2
      omega
    · intro a ha b hb e
      subst e
      obtain ⟨k, hk, e1⟩ := hg_mem_run.mp ha
      obtain ⟨m, hm, e2⟩ := hg_mem_run.mp hb
      have e3 := (hg_pe (e1.symm.trans e2)).1
      have a1 := hg_kdiv hk
      have a2 : 1 * y ≤ (k + 1) * y := Nat.mul_le_mul_right y (by omega)
      omega
theorem hg_nodup (g x y z : Nat) : (hg_LX g x y z).Nodup := by
  by_cases h2 : g = 2
  · subst h2; exact hg_nd2 x y z
  · by_cases h3 : g = 3
    · subst h3
      refine hg_nd3 ?_ ?_ ?_ ?_ ?_ ?_ <;> (intro i j hi hj e; have := hg_pe e; omega)
    · by_cases h4 : g = 4
      · subst h4
        refine hg_nd3 ?_ ?_ ?_ ?_ ?_ ?_ <;> (intro i j hi hj e; have := hg_pe e; omega)
      · by_cases h5 : g = 5
        · subst h5; exact hg_nd5 x y z
        · unfold hg_LX
          rw [if_neg h2, if_neg h3, if_neg h4, if_neg h5]
          refine hg_nd3 ?_ ?_ ?_ ?_ ?_ ?_ <;> (intro i j hi hj e; have := hg_pe e; omega)
end
section
def hg_og (x y : Nat) : Bool := Nat.blt (y * (x + y)) (x * x)
def hg_w0 (x y z : Nat) : Bool := !(Nat.beq (x ^^^ y ^^^ z) 0)
def hg_w1 (x y z : Nat) : Bool := Bool.xor (!(Nat.beq (x ^^^ y ^^^ z) 0)) (Nat.ble x 1 && Nat.ble y 1 && Nat.ble z 1)
def hg_w2 (x y z : Nat) : Bool := !(Nat.beq x y && Nat.beq y z)
def hg_w3 (x z : Nat) : Bool := !(Nat.beq x z)
def hg_w4 (a b : Nat) : Bool := hg_og (min a b) (a + b - 2 * min a b) || !(hg_og (min a b + 1) (a + b - 2 * min a b))
def hg_w5 (a b : Nat) : Bool := !(Nat.beq (min a b) 0) && (Nat.beq (a + b - min a b) (min a b) || hg_og (a + b - min a b) (min a b))
def hg_w7 (x y z : Nat) : Bool := !(Nat.beq ((x ^^^ y ^^^ z) &&& 3) 0)
def hg_W (g x y z : Nat) : Bool :=
  if g = 1 then hg_w1 x y z else if g = 2 then hg_w2 x y z else if g = 3 then hg_w3 x z else if g = 4 then hg_w4 x y else if g = 5 then hg_w5 x y else if g = 7 then hg_w7 x y z else hg_w0 x y z
def hg_V (g x y z : Nat) : Nat := if g = 0 then x ^^^ y ^^^ z else if g = 7 then (x ^^^ y ^^^ z) &&& 3 else 0
def hg_Wq (g : Nat) (q : hg_T) : Bool := hg_W g q.1 q.2.1 q.2.2
def hg_Vq (g : Nat) (q : hg_T) : Nat := hg_V g q.1 q.2.1 q.2.2
def hg_any (n : Nat) (f : Nat → Bool) : Bool := (List.range n).any f
theorem hg_any_iff {n : Nat} {f : Nat → Bool} : hg_any n f = true ↔ ∃ k, k < n ∧ f k = true := by
  unfold hg_any
  rw [List.any_eq_true]
  constructor
  · rintro ⟨k, hk, h⟩
    exact ⟨k, List.mem_range.mp hk, h⟩
  · rintro ⟨k, hk, h⟩
    exact ⟨k, List.mem_range.mpr hk, h⟩
theorem hg_all1 {n : Nat} {f : Nat → Bool} (h : (List.range n).all f = true) {x : Nat} (hx : x < n) : f x = true :=
  List.all_eq_true.mp h x (List.mem_range.mpr hx)
theorem hg_all2 {m n : Nat} {f : Nat → Nat → Bool} (h : ((List.range m).all fun x => (List.range n).all fun y => f x y) = true) {x y : Nat} (hx : x < m) (hy : y < n) : f x y = true :=
  hg_all1 (hg_all1 h hx) hy
theorem hg_all3 {m : Nat} {f : Nat → Nat → Nat → Bool} (h : ((List.range m).all fun x => (List.range m).all fun y => (List.range m).all fun z => f x y z) = true) {x y z : Nat} (hx : x < m) (hy : y < m) (hz : z < m) : f x y z = true :=
  hg_all1 (hg_all2 h hx hy) hz
theorem hg_beqI {a b : Nat} : Nat.beq a b = true ↔ a = b := by rw [Nat.beq_eq]
theorem hg_beqF {a b : Nat} : Nat.beq a b = false ↔ a ≠ b := by
  constructor
  · intro h e
    rw [hg_beqI.mpr e] at h
    exact Bool.noConfusion h
  · intro h
    cases e : Nat.beq a b
    · rfl
    · exact absurd (hg_beqI.mp e) h
/-! closed tables -/
set_option maxRecDepth 100000 in
theorem hg_c0 : ((List.range 16).all fun x => (List.range 16).all fun y => (List.range 16).all fun z => (List.range (x ^^^ y ^^^ z)).all fun v => (Nat.blt (v ^^^ y ^^^ z) x || Nat.blt (v ^^^ x ^^^ z) y || Nat.blt (v ^^^ x ^^^ y) z)) = true := by decide +kernel
set_option maxRecDepth 100000 in
theorem hg_c7 : ((List.range 16).all fun x => (List.range 16).all fun y => (List.range 16).all fun z => (List.range ((x ^^^ y ^^^ z) &&& 3)).all fun v => (hg_any (min x 3) (fun k => Nat.beq (((x - (k + 1)) ^^^ y ^^^ z) &&& 3) v) || hg_any (min y 3) (fun k => Nat.beq ((x ^^^ (y - (k + 1)) ^^^ z) &&& 3) v) || hg_any (min z 3) (fun k => Nat.beq ((x ^^^ y ^^^ (z - (k + 1))) &&& 3) v))) = true := by decide +kernel
set_option maxRecDepth 100000 in
theorem hg_c7n : ((List.range 16).all fun x => (List.range 16).all fun y => (List.range 16).all fun z => !(hg_any (min x 3) (fun k => Nat.beq (((x - (k + 1)) ^^^ y ^^^ z) &&& 3) ((x ^^^ y ^^^ z) &&& 3)) || hg_any (min y 3) (fun k => Nat.beq ((x ^^^ (y - (k + 1)) ^^^ z) &&& 3) ((x ^^^ y ^^^ z) &&& 3)) || hg_any (min z 3) (fun k => Nat.beq ((x ^^^ y ^^^ (z - (k + 1))) &&& 3) ((x ^^^ y ^^^ z) &&& 3)))) = true := by decide +kernel
set_option maxRecDepth 100000 in
theorem hg_c1 : ((List.range 16).all fun x => (List.range 16).all fun y => (List.range 16).all fun z => (hg_w1 x y z == (hg_any x (fun k => !hg_w1 k y z) || hg_any y (fun k => !hg_w1 x k z) || hg_any z (fun k => !hg_w1 x y k) || Nat.beq (x + y + z) 0))) = true := by decide +kernel
set_option maxRecDepth 100000 in
theorem hg_c4 : ((List.range 16).all fun x => (List.range 16).all fun y => (hg_w4 x y == (hg_any x (fun k => !hg_w4 k y) || hg_any y (fun k => !hg_w4 x k) || hg_any (min x y) (fun k => !hg_w4 (x - (k + 1)) (y - (k + 1)))))) = true := by decide +kernel
set_option maxRecDepth 100000 in
theorem hg_c5 : ((List.range 16).all fun x => (List.range 16).all fun y => (hg_w5 x y == (!(Nat.beq x 0 || Nat.beq y 0) && (hg_any (x / y) (fun k => !hg_w5 (x - (k + 1) * y) y) || hg_any (y / x) (fun k => !hg_w5 x (y - (k + 1) * x)))))) = true := by decide +kernel
/-! the members of the lists -/
theorem hg_mem3 {x y z : Nat} {q : hg_T} : q ∈ hg_LX 3 x y z ↔ (∃ k, k < x ∧ q = (x - (k + 1), y, z)) ∨ (∃ k, k < y ∧ q = (x + (k + 1), y - (k + 1), z)) ∨ (∃ k, k < z ∧ q = (x, y + (k + 1), z - (k + 1))) := by
  show q ∈ hg_run x (fun k => (x - (k + 1), y, z)) ++ hg_run y (fun k => (x + (k + 1), y - (k + 1), z)) ++ hg_run z (fun k => (x, y + (k + 1), z - (k + 1))) ↔ _
  rw [List.mem_append, List.mem_append, hg_mem_run, hg_mem_run, hg_mem_run, or_assoc]
theorem hg_mem4 {x y z : Nat} {q : hg_T} : q ∈ hg_LX 4 x y z ↔ (∃ k, k < x ∧ q = (x - (k + 1), y, z)) ∨ (∃ k, k < y ∧ q = (x, y - (k + 1), z)) ∨ (∃ k, k < min x y ∧ q = (x - (k + 1), y - (k + 1), z)) := by
  show q ∈ hg_run x (fun k => (x - (k + 1), y, z)) ++ hg_run y (fun k => (x, y - (k + 1), z)) ++ hg_run (min x y) (fun k => (x - (k + 1), y - (k + 1), z)) ↔ _
  rw [List.mem_append, List.mem_append, hg_mem_run, hg_mem_run, hg_mem_run, or_assoc]
theorem hg_mem5 {x y z : Nat} {q : hg_T} : q ∈ hg_LX 5 x y z ↔ ¬ (x = 0 ∨ y = 0) ∧ ((∃ k, k < x / y ∧ q = (x - (k + 1) * y, y, z)) ∨ (∃ k, k < y / x ∧ q = (x, y - (k + 1) * x, z))) := by
  show q ∈ (if x = 0 ∨ y = 0 then [] else hg_run (x / y) (fun k => (x - (k + 1) * y, y, z)) ++ hg_run (y / x) (fun k => (x, y - (k + 1) * x, z))) ↔ _
  by_cases h : x = 0 ∨ y = 0
  · rw [if_pos h]
    exact ⟨fun z => absurd z List.not_mem_nil, fun z => absurd h z.1⟩
  · rw [if_neg h, List.mem_append, hg_mem_run, hg_mem_run]
    exact ⟨fun z => ⟨h, z⟩, fun z => z.2⟩
theorem hg_memS {g x y z : Nat} {q : hg_T} (h2 : g ≠ 2) (h3 : g ≠ 3) (h4 : g ≠ 4) (h5 : g ≠ 5) : q ∈ hg_LX g x y z ↔ (∃ k, k < min x (if g = 7 then 3 else 15) ∧ q = (x - (k + 1), y, z)) ∨ (∃ k, k < min y (if g = 7 then 3 else 15) ∧ q = (x, y - (k + 1), z)) ∨ (∃ k, k < min z (if g = 7 then 3 else 15) ∧ q = (x, y, z - (k + 1))) := by
  unfold hg_LX
  rw [if_neg h2, if_neg h3, if_neg h4, if_neg h5, List.mem_append, List.mem_append, hg_mem_run, hg_mem_run, hg_mem_run, or_assoc]
theorem hg_dn (x : Nat) (hx : x ≤ 15) (P : Nat → Prop) : (∃ k, k < min x 15 ∧ P (x - (k + 1))) ↔ ∃ a, a < x ∧ P a := by
  constructor
  · rintro ⟨k, hk, h⟩
    exact ⟨_, by omega, h⟩
  · rintro ⟨a, ha, h⟩
    refine ⟨x - 1 - a, by omega, ?_⟩
    have e : x - (x - 1 - a + 1) = a := by omega
    rw [e]; exact h
theorem hg_dn' (x : Nat) (P : Nat → Prop) : (∃ k, k < x ∧ P (x - (k + 1))) ↔ ∃ a, a < x ∧ P a := by
  constructor
  · rintro ⟨k, hk, h⟩
    exact ⟨_, by omega, h⟩
  · rintro ⟨a, ha, h⟩
    refine ⟨x - 1 - a, by omega, ?_⟩
    have e : x - (x - 1 - a + 1) = a := by omega
    rw [e]; exact h
theorem hg_memN {g x y z : Nat} {q : hg_T} (hx : x ≤ 15) (hy : y ≤ 15) (hz : z ≤ 15) (h2 : g ≠ 2) (h3 : g ≠ 3) (h4 : g ≠ 4) (h5 : g ≠ 5) (h7 : g ≠ 7) : q ∈ hg_LX g x y z ↔ (∃ a, a < x ∧ q = (a, y, z)) ∨ (∃ a, a < y ∧ q = (x, a, z)) ∨ (∃ a, a < z ∧ q = (x, y, a)) := by
  rw [hg_memS h2 h3 h4 h5, if_neg h7, hg_dn x hx (fun a => q = (a, y, z)), hg_dn y hy (fun a => q = (x, a, z)), hg_dn z hz (fun a => q = (x, y, a))]
theorem hg_mem2 {x y z : Nat} {q : hg_T} : q ∈ hg_LX 2 x y z ↔ q.1 ≤ x ∧ q.2.1 ≤ y ∧ q.2.2 ≤ z ∧ (q.1 < x ∨ q.2.1 < y ∨ q.2.2 < z) ∧ (q.1 = x ∨ q.2.1 = y ∨ q.2.2 = z) := by
  show q ∈ hg_run x (fun k => (x - (k + 1), y, z)) ++ hg_run y (fun k => (x, y - (k + 1), z)) ++ hg_run z (fun k => (x, y, z - (k + 1))) ++ ((List.range x).flatMap (fun k => hg_run y (fun m => (x - (k + 1), y - (m + 1), z)) ++ hg_run z (fun m => (x - (k + 1), y, z - (m + 1)))) ++ (List.range y).flatMap (fun k => hg_run z (fun m => (x, y - (k + 1), z - (m + 1))))) ↔ _
  obtain ⟨a, b, c⟩ := q
  rw [List.mem_append, List.mem_append, List.mem_append, List.mem_append, hg_mem_run, hg_mem_run, hg_mem_run, List.mem_flatMap, List.mem_flatMap]
  constructor
  · rintro (((⟨k, hk, e⟩ | ⟨k, hk, e⟩) | ⟨k, hk, e⟩) | (⟨k, hk, h⟩ | ⟨k, hk, h⟩))
    · have := hg_pe e; dsimp only; omega
    · have := hg_pe e; dsimp only; omega
    · have := hg_pe e; dsimp only; omega
    · rw [List.mem_range] at hk
      rw [List.mem_append, hg_mem_run, hg_mem_run] at h
      rcases h with ⟨m, hm, e⟩ | ⟨m, hm, e⟩
      · have := hg_pe e; dsimp only; omega
      · have := hg_pe e; dsimp only; omega
    · rw [List.mem_range] at hk
      rw [hg_mem_run] at h
      obtain ⟨m, hm, e⟩ := h
      have := hg_pe e; dsimp only; omega
  · dsimp only
    rintro ⟨ha, hb, hc, hl, he⟩
    have et : ∀ {u a : Nat}, a < u → u - (u - 1 - a + 1) = a := by intro u a h; omega
    by_cases ea : a = x
    · by_cases eb : b = y
      · have hc' : c < z := by omega
        refine Or.inl (Or.inr ⟨z - 1 - c, by omega, ?_⟩)
        rw [et hc', ea, eb]
      · have hb' : b < y := by omega
        by_cases ec : c = z
        · refine Or.inl (Or.inl (Or.inr ⟨y - 1 - b, by omega, ?_⟩))
          rw [et hb', ea, ec]
        · have hc' : c < z := by omega
          refine Or.inr (Or.inr ⟨y - 1 - b, List.mem_range.mpr (by omega), hg_mem_run.mpr ⟨z - 1 - c, by omega, ?_⟩⟩)
          rw [et hb', et hc', ea]
    · have ha' : a < x := by omega
      by_cases eb : b = y
      · by_cases ec : c = z
        · refine Or.inl (Or.inl (Or.inl ⟨x - 1 - a, by omega, ?_⟩))
          rw [et ha', eb, ec]
        · have hc' : c < z := by omega
          refine Or.inr (Or.inl ⟨x - 1 - a, List.mem_range.mpr (by omega), List.mem_append.mpr (Or.inr (hg_mem_run.mpr ⟨z - 1 - c, by omega, ?_⟩))⟩)
          rw [et ha', et hc', eb]
      · have hb' : b < y := by omega
        have ec : c = z := by omega
        refine Or.inr (Or.inl ⟨x - 1 - a, List.mem_range.mpr (by omega), List.mem_append.mpr (Or.inl (hg_mem_run.mpr ⟨y - 1 - b, by omega, ?_⟩))⟩)
        rw [et ha', et hb', ec]
/-- a move takes away, in all games but 3 -/
theorem hg_less {g x y z : Nat} {q : hg_T} (h3 : g ≠ 3) (h : q ∈ hg_LX g x y z) : q.1 ≤ x ∧ q.2.1 ≤ y ∧ q.2.2 ≤ z ∧ (q.1 < x ∨ q.2.1 < y ∨ q.2.2 < z) := by
  by_cases h2 : g = 2
  · subst h2
    have := hg_mem2.mp h
    omega
  · by_cases h4 : g = 4
    · subst h4
      rcases hg_mem4.mp h with ⟨k, hk, rfl⟩ | ⟨k, hk, rfl⟩ | ⟨k, hk, rfl⟩ <;> (dsimp only; omega)
    · by_cases h5 : g = 5
      · subst h5
        obtain ⟨h0, h⟩ := hg_mem5.mp h
        rcases h with ⟨k, hk, rfl⟩ | ⟨k, hk, rfl⟩
        · have a1 := hg_kdiv hk
          have a2 : 1 * y ≤ (k + 1) * y := Nat.mul_le_mul_right y (by omega)
          dsimp only; omega
        · have a1 := hg_kdiv hk
          have a2 : 1 * x ≤ (k + 1) * x := Nat.mul_le_mul_right x (by omega)
          dsimp only; omega
      · rcases (hg_memS h2 h3 h4 h5).mp h with ⟨k, hk, rfl⟩ | ⟨k, hk, rfl⟩ | ⟨k, hk, rfl⟩ <;> (dsimp only; omega)
theorem hg_flat {g x y z : Nat} {q : hg_T} (hg : g = 4 ∨ g = 5) (h : q ∈ hg_LX g x y z) : q.2.2 = z := by
  rcases hg with rfl | rfl
  · rcases hg_mem4.mp h with ⟨k, hk, rfl⟩ | ⟨k, hk, rfl⟩ | ⟨k, hk, rfl⟩ <;> rfl
  · rcases (hg_mem5.mp h).2 with ⟨k, hk, rfl⟩ | ⟨k, hk, rfl⟩ <;> rfl
/-! the value is the least that no move leads to; won means that a move leads to a lost one -/
theorem hg_xx (a b : Nat) : a ^^^ b ^^^ b = a := by rw [Nat.xor_assoc, Nat.xor_self, Nat.xor_zero]
theorem hg_xc {a b c : Nat} (h : a ^^^ c = b ^^^ c) : a = b := by
  have := congrArg (· ^^^ c) h
  rw [hg_xx, hg_xx] at this
  exact this
theorem hg_xl {a b c : Nat} (h : c ^^^ a = c ^^^ b) : a = b := by
  rw [Nat.xor_comm c a, Nat.xor_comm c b] at h
  exact hg_xc h
theorem hg_mex0 {x y z : Nat} (hx : x ≤ 15) (hy : y ≤ 15) (hz : z ≤ 15) : (∀ v, v < hg_V 0 x y z → ∃ q, q ∈ hg_LX 0 x y z ∧ hg_Vq 0 q = v) ∧ (∀ q, q ∈ hg_LX 0 x y z → hg_Vq 0 q ≠ hg_V 0 x y z) := by
  have hm := fun q : hg_T => hg_memN (g := 0) (q := q) hx hy hz (by decide) (by decide) (by decide) (by decide) (by decide)
  constructor
  · intro v hv
    have h := hg_all1 (hg_all3 hg_c0 (x := x) (y := y) (z := z) (by omega) (by omega) (by omega)) hv
    rw [Bool.or_eq_true, Bool.or_eq_true] at h
    rcases h with (h | h) | h
    · refine ⟨(v ^^^ y ^^^ z, y, z), (hm _).mpr (Or.inl ⟨_, Nat.le_of_ble_eq_true h, rfl⟩), ?_⟩
      show v ^^^ y ^^^ z ^^^ y ^^^ z = v
      rw [Nat.xor_assoc v y z, Nat.xor_assoc _ y z, hg_xx]
    · refine ⟨(x, v ^^^ x ^^^ z, z), (hm _).mpr (Or.inr (Or.inl ⟨_, Nat.le_of_ble_eq_true h, rfl⟩)), ?_⟩
      show x ^^^ (v ^^^ x ^^^ z) ^^^ z = v
      rw [Nat.xor_comm x, Nat.xor_assoc _ x z, Nat.xor_assoc v x z, hg_xx]
    · refine ⟨(x, y, v ^^^ x ^^^ y), (hm _).mpr (Or.inr (Or.inr ⟨_, Nat.le_of_ble_eq_true h, rfl⟩)), ?_⟩
      show x ^^^ y ^^^ (v ^^^ x ^^^ y) = v
      rw [Nat.xor_comm (x ^^^ y), Nat.xor_assoc v x y, hg_xx]
  · intro q hq e
    rcases (hm _).mp hq with ⟨a, ha, rfl⟩ | ⟨a, ha, rfl⟩ | ⟨a, ha, rfl⟩
    · have e' : a ^^^ y ^^^ z = x ^^^ y ^^^ z := e
      have := hg_xc (hg_xc e')
      omega
    · have e' : x ^^^ a ^^^ z = x ^^^ y ^^^ z := e
      have := hg_xl (hg_xc e')
      omega
    · have e' : x ^^^ y ^^^ a = x ^^^ y ^^^ z := e
      have := hg_xl e'
      omega
theorem hg_mex7 {x y z : Nat} (hx : x ≤ 15) (hy : y ≤ 15) (hz : z ≤ 15) : (∀ v, v < hg_V 7 x y z → ∃ q, q ∈ hg_LX 7 x y z ∧ hg_Vq 7 q = v) ∧ (∀ q, q ∈ hg_LX 7 x y z → hg_Vq 7 q ≠ hg_V 7 x y z) := by
  have hm := fun q : hg_T => hg_memS (g := 7) (x := x) (y := y) (z := z) (q := q) (by decide) (by decide) (by decide) (by decide)
  constructor
  · intro v hv
    have h := hg_all1 (hg_all3 hg_c7 (x := x) (y := y) (z := z) (by omega) (by omega) (by omega)) hv
    rw [Bool.or_eq_true, Bool.or_eq_true, hg_any_iff, hg_any_iff, hg_any_iff] at h
    rcases h with (⟨k, hk, h⟩ | ⟨k, hk, h⟩) | ⟨k, hk, h⟩
    · exact ⟨_, (hm _).mpr (Or.inl ⟨k, hk, rfl⟩), hg_beqI.mp h⟩
    · exact ⟨_, (hm _).mpr (Or.inr (Or.inl ⟨k, hk, rfl⟩)), hg_beqI.mp h⟩
    · exact ⟨_, (hm _).mpr (Or.inr (Or.inr ⟨k, hk, rfl⟩)), hg_beqI.mp h⟩
  · intro q hq e
    have h := hg_all3 hg_c7n (x := x) (y := y) (z := z) (by omega) (by omega) (by omega)
    rw [Bool.not_eq_true', Bool.or_eq_false_iff, Bool.or_eq_false_iff] at h
    obtain ⟨⟨h1, h2⟩, h3⟩ := h
    rcases (hm _).mp hq with ⟨k, hk, rfl⟩ | ⟨k, hk, rfl⟩ | ⟨k, hk, rfl⟩
    · exact absurd (h1.symm.trans (hg_any_iff.mpr ⟨k, hk, hg_beqI.mpr e⟩)) (by decide)
    · exact absurd (h2.symm.trans (hg_any_iff.mpr ⟨k, hk, hg_beqI.mpr e⟩)) (by decide)
    · exact absurd (h3.symm.trans (hg_any_iff.mpr ⟨k, hk, hg_beqI.mpr e⟩)) (by decide)
def hg_K (g x y z : Nat) : Prop := hg_W g x y z = true ↔ (∃ q, q ∈ hg_LX g x y z ∧ hg_Wq g q = false) ∨ (g = 1 ∧ hg_LX g x y z = [])
theorem hg_nb {n : Nat} : (!(Nat.beq n 0)) = true ↔ n ≠ 0 := by rw [Bool.not_eq_true', hg_beqF]
theorem hg_nbF {n : Nat} : (!(Nat.beq n 0)) = false ↔ n = 0 := by rw [Bool.not_eq_false', hg_beqI]
theorem hg_Kof {g x y z : Nat} (h1 : g ≠ 1) (hw : ∀ a b c, hg_W g a b c = !(Nat.beq (hg_V g a b c) 0)) (hm : (∀ v, v < hg_V g x y z → ∃ q, q ∈ hg_LX g x y z ∧ hg_Vq g q = v) ∧ (∀ q, q ∈ hg_LX g x y z → hg_Vq g q ≠ hg_V g x y z)) : hg_K g x y z := by
  unfold hg_K
  rw [hw, hg_nb]
  constructor
  · intro h
    obtain ⟨q, hq, e⟩ := hm.1 0 (by omega)
    refine Or.inl ⟨q, hq, ?_⟩
    unfold hg_Wq
    rw [hw, hg_nbF]
    exact e
  · rintro (⟨q, hq, e⟩ | ⟨e, _⟩)
    · unfold hg_Wq at e
      rw [hw, hg_nbF] at e
      intro h0
      exact hm.2 q hq (e.trans h0.symm)
    · exact absurd e h1
theorem hg_K0 {x y z : Nat} (hx : x ≤ 15) (hy : y ≤ 15) (hz : z ≤ 15) : hg_K 0 x y z :=
  hg_Kof (by decide) (fun _ _ _ => rfl) (hg_mex0 hx hy hz)
theorem hg_K7 {x y z : Nat} (hx : x ≤ 15) (hy : y ≤ 15) (hz : z ≤ 15) : hg_K 7 x y z :=
  hg_Kof (by decide) (fun _ _ _ => rfl) (hg_mex7 hx hy hz)
theorem hg_beqB {a b : Bool} (h : (a == b) = true) : a = b := by
  cases a <;> cases b <;> first | rfl | exact Bool.noConfusion h
theorem hg_K1 {x y z : Nat} (hx : x ≤ 15) (hy : y ≤ 15) (hz : z ≤ 15) : hg_K 1 x y z := by
  have hm := fun q : hg_T => hg_memN (g := 1) (q := q) hx hy hz (by decide) (by decide) (by decide) (by decide) (by decide)
  have h := hg_beqB (hg_all3 hg_c1 (x := x) (y := y) (z := z) (by omega) (by omega) (by omega))
  unfold hg_K
  show hg_w1 x y z = true ↔ _
  rw [h, Bool.or_eq_true, Bool.or_eq_true, Bool.or_eq_true, hg_any_iff, hg_any_iff, hg_any_iff, hg_beqI]
  constructor
  · rintro (((⟨k, hk, e⟩ | ⟨k, hk, e⟩) | ⟨k, hk, e⟩) | e)
    · rw [Bool.not_eq_true'] at e
      exact Or.inl ⟨_, (hm _).mpr (Or.inl ⟨k, hk, rfl⟩), e⟩
    · rw [Bool.not_eq_true'] at e
      exact Or.inl ⟨_, (hm _).mpr (Or.inr (Or.inl ⟨k, hk, rfl⟩)), e⟩
    · rw [Bool.not_eq_true'] at e
      exact Or.inl ⟨_, (hm _).mpr (Or.inr (Or.inr ⟨k, hk, rfl⟩)), e⟩
    · refine Or.inr ⟨rfl, ?_⟩
      have e1 : x = 0 := by omega
      have e2 : y = 0 := by omega
      have e3 : z = 0 := by omega
      subst e1 e2 e3
      rfl
  · rintro (⟨q, hq, e⟩ | ⟨_, e⟩)
    · rcases (hm _).mp hq with ⟨a, ha, rfl⟩ | ⟨a, ha, rfl⟩ | ⟨a, ha, rfl⟩
      · exact Or.inl (Or.inl (Or.inl ⟨a, ha, by rw [Bool.not_eq_true']; exact e⟩))
      · exact Or.inl (Or.inl (Or.inr ⟨a, ha, by rw [Bool.not_eq_true']; exact e⟩))
      · exact Or.inl (Or.inr ⟨a, ha, by rw [Bool.not_eq_true']; exact e⟩)
    · refine Or.inr ?_
      have n1 : ¬ 0 < x := fun hp => by
        have := (hm (0, y, z)).mpr (Or.inl ⟨0, hp, rfl⟩)
        rw [e] at this
        exact List.not_mem_nil this
      have n2 : ¬ 0 < y := fun hp => by
        have := (hm (x, 0, z)).mpr (Or.inr (Or.inl ⟨0, hp, rfl⟩))
        rw [e] at this
        exact List.not_mem_nil this
      have n3 : ¬ 0 < z := fun hp => by
        have := (hm (x, y, 0)).mpr (Or.inr (Or.inr ⟨0, hp, rfl⟩))
        rw [e] at this
        exact List.not_mem_nil this
      omega
theorem hg_w2F {x y z : Nat} : hg_w2 x y z = false ↔ x = y ∧ y = z := by
  unfold hg_w2
  rw [Bool.not_eq_false', Bool.and_eq_true, hg_beqI, hg_beqI]
theorem hg_w2T {x y z : Nat} : hg_w2 x y z = true ↔ ¬ (x = y ∧ y = z) := by
  rw [← hg_w2F, Bool.not_eq_false]
theorem hg_K2 (x y z : Nat) : hg_K 2 x y z := by
  unfold hg_K
  show hg_w2 x y z = true ↔ _
  rw [hg_w2T]
  constructor
  · intro h
    refine Or.inl ⟨(min x (min y z), min x (min y z), min x (min y z)), hg_mem2.mpr ?_, hg_w2F.mpr ⟨rfl, rfl⟩⟩
    dsimp only
    omega
  · rintro (⟨q, hq, e⟩ | ⟨e, _⟩)
    · have h1 := hg_mem2.mp hq
      have h2 := hg_w2F.mp e
      omega
    · exact absurd e (by decide)
theorem hg_w3F {x z : Nat} : hg_w3 x z = false ↔ x = z := by
  unfold hg_w3
  rw [Bool.not_eq_false', hg_beqI]
theorem hg_w3T {x z : Nat} : hg_w3 x z = true ↔ x ≠ z := by
  unfold hg_w3
  rw [Bool.not_eq_true', hg_beqF]
theorem hg_K3 (x y z : Nat) : hg_K 3 x y z := by
  unfold hg_K
  show hg_w3 x z = true ↔ _
  rw [hg_w3T]
  constructor
  · intro h
    by_cases hl : z < x
    · refine Or.inl ⟨_, hg_mem3.mpr (Or.inl ⟨x - z - 1, by omega, rfl⟩), hg_w3F.mpr ?_⟩
      dsimp only
      omega
    · refine Or.inl ⟨_, hg_mem3.mpr (Or.inr (Or.inr ⟨z - x - 1, by omega, rfl⟩)), hg_w3F.mpr ?_⟩
      dsimp only
      omega
  · rintro (⟨q, hq, e⟩ | ⟨e, _⟩)
    · have h2 := hg_w3F.mp e
      rcases hg_mem3.mp hq with ⟨k, hk, rfl⟩ | ⟨k, hk, rfl⟩ | ⟨k, hk, rfl⟩ <;> (dsimp only at h2; omega)
    · exact absurd e (by decide)
theorem hg_K4 {x y z : Nat} (hx : x ≤ 15) (hy : y ≤ 15) : hg_K 4 x y z := by
  have h := hg_beqB (hg_all2 hg_c4 (x := x) (y := y) (by omega) (by omega))
  unfold hg_K
  show hg_w4 x y = true ↔ _
  rw [h, Bool.or_eq_true, Bool.or_eq_true, hg_any_iff, hg_any_iff, hg_any_iff, ← hg_dn' x (fun a => (!hg_w4 a y) = true), ← hg_dn' y (fun a => (!hg_w4 x a) = true)]
  constructor
  · rintro ((⟨k, hk, e⟩ | ⟨k, hk, e⟩) | ⟨k, hk, e⟩)
    · rw [Bool.not_eq_true'] at e
      exact Or.inl ⟨_, hg_mem4.mpr (Or.inl ⟨k, hk, rfl⟩), e⟩
    · rw [Bool.not_eq_true'] at e
      exact Or.inl ⟨_, hg_mem4.mpr (Or.inr (Or.inl ⟨k, hk, rfl⟩)), e⟩
    · rw [Bool.not_eq_true'] at e
      exact Or.inl ⟨_, hg_mem4.mpr (Or.inr (Or.inr ⟨k, hk, rfl⟩)), e⟩
  · rintro (⟨q, hq, e⟩ | ⟨e, _⟩)
    · rcases hg_mem4.mp hq with ⟨k, hk, rfl⟩ | ⟨k, hk, rfl⟩ | ⟨k, hk, rfl⟩
      · exact Or.inl (Or.inl ⟨k, hk, by rw [Bool.not_eq_true']; exact e⟩)
      · exact Or.inl (Or.inr ⟨k, hk, by rw [Bool.not_eq_true']; exact e⟩)
      · exact Or.inr ⟨k, hk, by rw [Bool.not_eq_true']; exact e⟩
    · exact absurd e (by decide)
theorem hg_K5 {x y z : Nat} (hx : x ≤ 15) (hy : y ≤ 15) : hg_K 5 x y z := by
  have h := hg_beqB (hg_all2 hg_c5 (x := x) (y := y) (by omega) (by omega))
  unfold hg_K
  show hg_w5 x y = true ↔ _
  rw [h, Bool.and_eq_true, Bool.or_eq_true, hg_any_iff, hg_any_iff, Bool.not_eq_true', Bool.or_eq_false_iff, hg_beqF, hg_beqF]
  constructor
  · rintro ⟨⟨h1, h2⟩, (⟨k, hk, e⟩ | ⟨k, hk, e⟩)⟩
    · rw [Bool.not_eq_true'] at e
      exact Or.inl ⟨_, hg_mem5.mpr ⟨by omega, Or.inl ⟨k, hk, rfl⟩⟩, e⟩
    · rw [Bool.not_eq_true'] at e
      exact Or.inl ⟨_, hg_mem5.mpr ⟨by omega, Or.inr ⟨k, hk, rfl⟩⟩, e⟩
  · rintro (⟨q, hq, e⟩ | ⟨e, _⟩)
    · obtain ⟨h0, hq⟩ := hg_mem5.mp hq
      refine ⟨⟨by omega, by omega⟩, ?_⟩
      rcases hq with ⟨k, hk, rfl⟩ | ⟨k, hk, rfl⟩
      · exact Or.inl ⟨k, hk, by rw [Bool.not_eq_true']; exact e⟩
      · exact Or.inr ⟨k, hk, by rw [Bool.not_eq_true']; exact e⟩
    · exact absurd e (by decide)
theorem hg_Kall {g x y z : Nat} (hg : g < 8) (h6 : g ≠ 6) (h : g = 3 ∨ (x ≤ 15 ∧ y ≤ 15 ∧ z ≤ 15)) : hg_K g x y z := by
  rcases h with rfl | ⟨hx, hy, hz⟩
  · exact hg_K3 x y z
  · have : g = 0 ∨ g = 1 ∨ g = 2 ∨ g = 3 ∨ g = 4 ∨ g = 5 ∨ g = 7 := by omega
    rcases this with rfl | rfl | rfl | rfl | rfl | rfl | rfl
    · exact hg_K0 hx hy hz
    · exact hg_K1 hx hy hz
    · exact hg_K2 x y z
    · exact hg_K3 x y z
    · exact hg_K4 hx hy
    · exact hg_K5 hx hy
    · exact hg_K7 hx hy hz
theorem hg_V16 {g x y z : Nat} (hx : x ≤ 15) (hy : y ≤ 15) (hz : z ≤ 15) : hg_V g x y z < 16 := by
  unfold hg_V
  by_cases h0 : g = 0
  · rw [if_pos h0]
    exact Nat.xor_lt_two_pow (n := 4) (Nat.xor_lt_two_pow (n := 4) (by omega) (by omega)) (by omega)
  · rw [if_neg h0]
    by_cases h7 : g = 7
    · rw [if_pos h7]
      exact Nat.lt_of_le_of_lt Nat.and_le_right (by decide)
    · rw [if_neg h7]
      decide
/-- the least number that no move leads to, with the values of game g -/
theorem hg_mexall {g x y z : Nat} (hg : g < 8) (h : g = 3 ∨ (x ≤ 15 ∧ y ≤ 15 ∧ z ≤ 15)) : ∃ m, m ≤ 16 ∧ (∀ v, v < m → ∃ q, q ∈ hg_LX g x y z ∧ hg_Vq g q = v) ∧ (∀ q, q ∈ hg_LX g x y z → hg_Vq g q ≠ m) ∧ ((g = 0 ∨ g = 7) → m = hg_V g x y z) := by
  by_cases h0 : g = 0
  · subst h0
    rcases h with h | ⟨hx, hy, hz⟩
    · exact absurd h (by decide)
    · have hm := hg_mex0 hx hy hz
      have h16 := hg_V16 (g := 0) hx hy hz
      exact ⟨hg_V 0 x y z, by omega, hm.1, hm.2, fun _ => rfl⟩
  · by_cases h7 : g = 7
    · subst h7
      rcases h with h | ⟨hx, hy, hz⟩
      · exact absurd h (by decide)
      · have hm := hg_mex7 hx hy hz
        have h16 := hg_V16 (g := 7) hx hy hz
        exact ⟨hg_V 7 x y z, by omega, hm.1, hm.2, fun _ => rfl⟩
    · have hv : ∀ q, hg_Vq g q = 0 := by
        intro q
        unfold hg_Vq hg_V
        rw [if_neg h0, if_neg h7]
      cases hL : hg_LX g x y z with
      | nil => exact ⟨0, by omega, fun v hv => absurd hv (by omega), fun q hq => absurd hq List.not_mem_nil, fun h => absurd h (by omega)⟩
      | cons p l =>
        refine ⟨1, by omega, fun v h1 => ⟨p, List.mem_cons_self, ?_⟩, fun q _ => ?_, fun h => absurd h (by omega)⟩
        · rw [hv]; omega
        · rw [hv]; omega
end
section
/-! game 6 -/
def hg_fst (p : Nat) (s : Nat × Nat) : Nat × Nat := if p ≤ s.1 then (s.1 - p, p) else s
def hg_lst (n : Nat) : Nat := (hg_fst 1 (hg_fst 2 (hg_fst 3 (hg_fst 5 (hg_fst 8 (hg_fst 13 (hg_fst 21 (hg_fst 34 (hg_fst 55 (n, 0)))))))))).2
def hg_w6 (n l : Nat) : Bool := Nat.ble 1 (hg_lst n) && Nat.ble (hg_lst n) l
set_option maxRecDepth 100000 in
theorem hg_c6 : ((List.range 61).all fun n => (Nat.ble (hg_lst n) n && (Nat.beq n 0 || Nat.ble 1 (hg_lst n)))) = true := by decide +kernel
set_option maxRecDepth 100000 in
theorem hg_c6k : ((List.range 61).all fun n => (List.range n).all fun k => ((Nat.ble (hg_lst n) (k + 1) || hg_w6 (n - (k + 1)) (min 60 (2 * (k + 1)))) && (!(Nat.beq (k + 1) (hg_lst n)) || !(hg_w6 (n - (k + 1)) (min 60 (2 * (k + 1))))))) = true := by decide +kernel
theorem hg_l1 {n : Nat} (h : n ≤ 60) : hg_lst n ≤ n := by
  have := hg_all1 hg_c6 (x := n) (by omega)
  rw [Bool.and_eq_true] at this
  exact Nat.le_of_ble_eq_true this.1
theorem hg_l2 {n : Nat} (h : n ≤ 60) (h0 : 0 < n) : 0 < hg_lst n := by
  have := hg_all1 hg_c6 (x := n) (by omega)
  rw [Bool.and_eq_true, Bool.or_eq_true] at this
  rcases this.2 with e | e
  · have := hg_beqI.mp e
    omega
  · exact Nat.le_of_ble_eq_true e
theorem hg_l3 {n k : Nat} (h : n ≤ 60) (hk : k < n) (hl : k + 1 < hg_lst n) : hg_w6 (n - (k + 1)) (min 60 (2 * (k + 1))) = true := by
  have := hg_all1 (hg_all1 hg_c6k (x := n) (by omega)) hk
  rw [Bool.and_eq_true, Bool.or_eq_true] at this
  rcases this.1 with e | e
  · have := Nat.le_of_ble_eq_true e
    omega
  · exact e
theorem hg_l4 {n k : Nat} (h : n ≤ 60) (hk : k < n) (hl : k + 1 = hg_lst n) : hg_w6 (n - (k + 1)) (min 60 (2 * (k + 1))) = false := by
  have := hg_all1 (hg_all1 hg_c6k (x := n) (by omega)) hk
  rw [Bool.and_eq_true, Bool.or_eq_true, Bool.or_eq_true] at this
  rcases this.2 with e | e
  · rw [hg_beqI.mpr hl] at e
    exact Bool.noConfusion e
  · rw [Bool.not_eq_true'] at e
    exact e
theorem hg_w6T {n l : Nat} : hg_w6 n l = true ↔ 0 < hg_lst n ∧ hg_lst n ≤ l := by
  unfold hg_w6
  rw [Bool.and_eq_true, Nat.ble_eq, Nat.ble_eq]
  exact Iff.rfl
def hg_N6 (n l : Nat) : List Nat := (List.range (min n l)).map (fun k => k + 1)
theorem hg_mem6 {n l v : Nat} : v ∈ hg_N6 n l ↔ 0 < v ∧ v ≤ n ∧ v ≤ l := by
  unfold hg_N6
  rw [List.mem_map]
  constructor
  · rintro ⟨k, hk, rfl⟩
    rw [List.mem_range] at hk
    omega
  · intro h
    exact ⟨v - 1, List.mem_range.mpr (by omega), by omega⟩
theorem hg_K6 {n l : Nat} (h : n ≤ 60) : hg_w6 n l = true ↔ ∃ v, v ∈ hg_N6 n l ∧ hg_w6 (n - v) (min 60 (2 * v)) = false := by
  rw [hg_w6T]
  constructor
  · intro hl
    have h1 := hg_l1 h
    have h4 := hg_l4 (k := hg_lst n - 1) h (by omega) (by omega)
    have e : hg_lst n - 1 + 1 = hg_lst n := by omega
    rw [e] at h4
    exact ⟨hg_lst n, hg_mem6.mpr ⟨hl.1, h1, hl.2⟩, h4⟩
  · rintro ⟨v, hv, e⟩
    have hv := hg_mem6.mp hv
    refine ⟨hg_l2 h (by omega), ?_⟩
    by_cases hl : v < hg_lst n
    · have h3 := hg_l3 (k := v - 1) h (by omega) (by omega)
      have e' : v - 1 + 1 = v := by omega
      rw [e', e] at h3
      exact Bool.noConfusion h3
    · omega
theorem hg_nd6 (n l : Nat) : (hg_N6 n l).Pairwise (· < ·) := by
  unfold hg_N6
  generalize min n l = m
  induction m with
  | zero => exact List.Pairwise.nil
  | succ m ih =>
    rw [List.range_succ, List.map_append, List.pairwise_append]
    refine ⟨ih, List.pairwise_singleton _ _, ?_⟩
    intro a ha b hb
    obtain ⟨k, hk, rfl⟩ := List.mem_map.mp ha
    obtain ⟨j, hj, rfl⟩ := List.mem_map.mp hb
    rw [List.mem_range] at hk
    rw [List.mem_singleton] at hj
    omega
/-! lists in arrays -/
def hg_H (a : Nat → Int32) (L : List Nat) : Prop := ∀ i v, L[i]? = some v → a i = nI v
def hg_H3 (a b c : Nat → Int32) (L : List hg_T) : Prop := ∀ i q, L[i]? = some q → a i = nI q.1 ∧ b i = nI q.2.1 ∧ c i = nI q.2.2
theorem hg_app_at {α : Type} {L : List α} {v w : α} {i : Nat} (h : (L ++ [v])[i]? = some w) : (i < L.length ∧ L[i]? = some w) ∨ (i = L.length ∧ w = v) := by
  by_cases hi : i < L.length
  · rw [List.getElem?_append_left hi] at h
    exact Or.inl ⟨hi, h⟩
  · rw [List.getElem?_append_right (by omega)] at h
    cases e : i - L.length with
    | zero =>
      rw [e] at h
      exact Or.inr ⟨by omega, (Option.some.inj h).symm⟩
    | succ m =>
      rw [e] at h
      exact absurd h (by intro z; cases z)
theorem hg_upd_ne {f : Nat → Int32} {k j : Nat} {x : Int32} (h : j ≠ k) : upd f k x j = f j := by
  unfold upd
  rw [if_neg h]
theorem hg_upd_eq {f : Nat → Int32} {k : Nat} {x : Int32} : upd f k x k = x := by
  unfold upd
  rw [if_pos rfl]
theorem hg_H_0 (a : Nat → Int32) : hg_H a [] := by
  intro i v h
  cases h
theorem hg_H3_0 (a b c : Nat → Int32) : hg_H3 a b c [] := by
  intro i v h
  cases h
theorem hg_H_app {a : Nat → Int32} {L : List Nat} (h : hg_H a L) (v : Nat) : hg_H (upd a L.length (nI v)) (L ++ [v]) := by
  intro i w hw
  rcases hg_app_at hw with ⟨hi, hw⟩ | ⟨hi, hw⟩
  · rw [hg_upd_ne (by omega)]
    exact h i w hw
  · rw [hi, hg_upd_eq, hw]
theorem hg_H3_app {a b c : Nat → Int32} {L : List hg_T} (h : hg_H3 a b c L) (q : hg_T) : hg_H3 (upd a L.length (nI q.1)) (upd b L.length (nI q.2.1)) (upd c L.length (nI q.2.2)) (L ++ [q]) := by
  intro i w hw
  rcases hg_app_at hw with ⟨hi, hw⟩ | ⟨hi, hw⟩
  · rw [hg_upd_ne (by omega), hg_upd_ne (by omega), hg_upd_ne (by omega)]
    exact h i w hw
  · rw [hi, hg_upd_eq, hg_upd_eq, hg_upd_eq, hw]
    exact ⟨rfl, rfl, rfl⟩
/-! order -/
theorem hg_cnt : ∀ (S : List Nat), S.Pairwise (· < ·) → ∀ j w, S[j]? = some w → S.countP (fun v => decide (v < w)) = j
  | [], _, _, _, h => by cases h
  | a :: S, hp, 0, w, h => by
    have e : a = w := Option.some.inj h
    subst e
    rw [List.countP_eq_zero]
    intro b hb
    have hn : ¬ b < a := by
      rcases List.mem_cons.mp hb with rfl | hb
      · omega
      · have := (List.pairwise_cons.mp hp).1 b hb
        omega
    exact fun z => hn (of_decide_eq_true z)
  | a :: S, hp, j + 1, w, h => by
    have h' : S[j]? = some w := h
    have hw : w ∈ S := List.mem_of_getElem? h'
    have hl := (List.pairwise_cons.mp hp).1 w hw
    have ih := hg_cnt S (List.pairwise_cons.mp hp).2 j w h'
    have e := List.countP_cons_of_pos (p := fun v => decide (v < w)) (a := a) (l := S) (decide_eq_true hl)
    rw [e, ih]
theorem hg_pick {F S : List Nat} (hp : List.Perm F S) (hs : S.Pairwise (· < ·)) {v : Nat} (hv : v ∈ F) : ∃ j, S[j]? = some v ∧ F.countP (fun w => decide (w < v)) = j := by
  obtain ⟨j, hj⟩ := List.getElem?_of_mem (hp.mem_iff.mp hv)
  exact ⟨j, hj, by rw [hp.countP_eq]; exact hg_cnt S hs j v hj⟩
theorem hg_strict : ∀ {S : List Nat}, S.Pairwise (· ≤ ·) → S.Nodup → S.Pairwise (· < ·)
  | [], _, _ => List.Pairwise.nil
  | a :: S, hs, hn => by
    have h1 := List.pairwise_cons.mp hs
    have h2 := List.nodup_cons.mp hn
    refine List.pairwise_cons.mpr ⟨fun b hb => ?_, hg_strict h1.2 h2.2⟩
    have h3 := h1.1 b hb
    have h4 : a ≠ b := fun e => h2.1 (e ▸ hb)
    omega
theorem hg_insert {l1 l2 : List Nat} {n : Nat} (hs : (l1 ++ l2).Pairwise (· ≤ ·)) (h1 : ∀ v, v ∈ l1 → v ≤ n) (h2 : ∀ v, v ∈ l2 → n ≤ v) : (l1 ++ n :: l2).Pairwise (· ≤ ·) := by
  rw [List.pairwise_append] at hs ⊢
  refine ⟨hs.1, List.pairwise_cons.mpr ⟨h2, hs.2.1⟩, ?_⟩
  intro a ha b hb
  rw [List.mem_cons] at hb
  rcases hb with rfl | hb
  · exact h1 a ha
  · exact hs.2.2 a ha b hb
theorem hg_num_inj {p q : hg_T} (hp : p.1 < 32 ∧ p.2.1 < 32) (hq : q.1 < 32 ∧ q.2.1 < 32) (h : hg_num p = hg_num q) : p = q := by
  obtain ⟨a, b, c⟩ := p
  obtain ⟨a', b', c'⟩ := q
  unfold hg_num at h
  dsimp only at h hp hq
  have e1 : a = a' := by omega
  have e2 : b = b' := by omega
  have e3 : c = c' := by omega
  rw [e1, e2, e3]
theorem hg_num_dec {p : hg_T} (hp : p.1 < 32 ∧ p.2.1 < 32) : hg_num p % 32 = p.1 ∧ hg_num p % 1024 / 32 = p.2.1 ∧ hg_num p / 32 % 32 = p.2.1 ∧ hg_num p / 1024 = p.2.2 := by
  unfold hg_num
  omega
theorem hg_map_nd {L : List hg_T} (hb : ∀ q, q ∈ L → q.1 < 32 ∧ q.2.1 < 32) (hn : L.Nodup) : (L.map hg_num).Nodup := by
  induction L with
  | nil => exact List.Pairwise.nil
  | cons p L ih =>
    have h2 := List.nodup_cons.mp hn
    rw [List.map_cons, List.nodup_cons]
    refine ⟨fun hm => ?_, ih (fun q hq => hb q (List.mem_cons_of_mem _ hq)) h2.2⟩
    obtain ⟨q, hq, e⟩ := List.mem_map.mp hm
    have := hg_num_inj (hb q (List.mem_cons_of_mem _ hq)) (hb p List.mem_cons_self) e
    exact h2.1 (this ▸ hq)
/-- the bounds of what one move leaves -/
theorem hg_bd {g x y z : Nat} {q : hg_T} (hx : x ≤ 15) (hy : y ≤ 15) (hz : z ≤ 15) (h : q ∈ hg_LX g x y z) : q.1 ≤ 30 ∧ q.2.1 ≤ 30 ∧ q.2.2 ≤ 15 ∧ (g ≠ 3 → q.1 ≤ 15 ∧ q.2.1 ≤ 15) := by
  by_cases h3 : g = 3
  · subst h3
    rcases hg_mem3.mp h with ⟨k, hk, rfl⟩ | ⟨k, hk, rfl⟩ | ⟨k, hk, rfl⟩ <;> (dsimp only; omega)
  · have := hg_less h3 h
    omega
/-- the winning moves, by their numbers, in X's order -/
def hg_F (g x y z : Nat) : List Nat := ((hg_LX g x y z).filter (fun q => !hg_Wq g q)).map hg_num
theorem hg_F_nd {g x y z : Nat} (hx : x ≤ 15) (hy : y ≤ 15) (hz : z ≤ 15) : (hg_F g x y z).Nodup := by
  refine hg_map_nd (fun q hq => ?_) (List.Nodup.sublist List.filter_sublist (hg_nodup g x y z))
  have := hg_bd hx hy hz ((List.mem_filter.mp hq).1)
  omega
theorem hg_F_eq {g x y z : Nat} (hx : x ≤ 15) (hy : y ≤ 15) (hz : z ≤ 15) : ((hg_LX g x y z).map hg_num).filter (fun v => !hg_W g (v % 32) (v % 1024 / 32) (v / 1024)) = hg_F g x y z := by
  unfold hg_F
  rw [List.filter_map]
  congr 1
  refine List.filter_congr (fun q hq => ?_)
  have hb := hg_bd hx hy hz hq
  have hd := hg_num_dec (p := q) ⟨by omega, by omega⟩
  show (!hg_W g (hg_num q % 32) (hg_num q % 1024 / 32) (hg_num q / 1024)) = !hg_Wq g q
  rw [hd.1, hd.2.1, hd.2.2.2]
  rfl
theorem hg_F_len {g x y z : Nat} (hg : g < 8) (h6 : g ≠ 6) (hx : x ≤ 15) (hy : y ≤ 15) (hz : z ≤ 15) : hg_W g x y z = true ↔ 0 < (hg_F g x y z).length ∨ (g = 1 ∧ (hg_LX g x y z).length = 0) := by
  have hK : hg_K g x y z := hg_Kall hg h6 (Or.inr ⟨hx, hy, hz⟩)
  unfold hg_K at hK
  rw [hK]
  unfold hg_F
  rw [List.length_map, List.length_eq_zero_iff, List.length_pos_iff_exists_mem]
  constructor
  · rintro (⟨q, hq, e⟩ | h)
    · exact Or.inl ⟨q, List.mem_filter.mpr ⟨hq, by rw [e]; rfl⟩⟩
    · exact Or.inr h
  · rintro (⟨q, hq⟩ | h)
    · obtain ⟨h1, h2⟩ := List.mem_filter.mp hq
      rw [Bool.not_eq_true'] at h2
      exact Or.inl ⟨q, h1, h2⟩
    · exact Or.inr h
end
section
def hg_bI (b : Bool) : Int32 := if b = true then 1 else 0
theorem hg_bI_t : hg_bI true = 1 := rfl
theorem hg_bI_f : hg_bI false = 0 := rfl
theorem hg_bI_0 {b : Bool} : hg_bI b = 0 ↔ b = false := by
  cases b
  · exact ⟨fun _ => rfl, fun _ => rfl⟩
  · exact ⟨fun h => absurd h (by decide), fun h => Bool.noConfusion h⟩
def hg_key (x y z : Nat) : Nat := (z * 31 + y) * 46 + x
def hg_Bd (x y z : Nat) : Prop := x ≤ 45 ∧ y ≤ 30 ∧ z ≤ 15
theorem hg_key_lt {x y z : Nat} (h : hg_Bd x y z) : hg_key x y z < 22816 := by
  unfold hg_Bd at h
  unfold hg_key
  omega
theorem hg_key_inj {x y z a b c : Nat} (h : hg_Bd x y z) (h' : hg_Bd a b c) (e : hg_key a b c = hg_key x y z) : a = x ∧ b = y ∧ c = z := by
  unfold hg_Bd at h h'
  unfold hg_key at e
  omega
def hg_Good (g : Nat) (D : Nat → Nat → Nat → Prop) (w v : Nat → Int32) : Prop := ∀ x y z, hg_Bd x y z → D x y z → w (hg_key x y z) = hg_bI (hg_W g x y z) ∧ v (hg_key x y z) = nI (hg_V g x y z)
theorem hg_Good_mono {g : Nat} {D D' : Nat → Nat → Nat → Prop} {w v : Nat → Int32} (h : hg_Good g D w v) (hd : ∀ a b c, D' a b c → D a b c) : hg_Good g D' w v :=
  fun x y z hb hD => h x y z hb (hd x y z hD)
theorem hg_Good_up {g : Nat} {D D' : Nat → Nat → Nat → Prop} {w v : Nat → Int32} {x y z : Nat} (h : hg_Good g D w v) (hb : hg_Bd x y z) (hd : ∀ a b c, D' a b c → D a b c ∨ (a = x ∧ b = y ∧ c = z)) : hg_Good g D' (upd w (hg_key x y z) (hg_bI (hg_W g x y z))) (upd v (hg_key x y z) (nI (hg_V g x y z))) := by
  intro a b c hb' hD
  by_cases e : hg_key a b c = hg_key x y z
  · obtain ⟨e1, e2, e3⟩ := hg_key_inj hb hb' e
    subst e1 e2 e3
    rw [hg_upd_eq, hg_upd_eq]
    exact ⟨rfl, rfl⟩
  · rw [hg_upd_ne e, hg_upd_ne e]
    rcases hd a b c hD with h1 | ⟨rfl, rfl, rfl⟩
    · exact h a b c hb' h1
    · exact absurd rfl e
/-- what fill has judged before (x, y, z), in all games but 3 -/
def hg_D (z0 h0 h1 z y x : Nat) : Nat → Nat → Nat → Prop := fun a b c => z0 ≤ c ∧ a ≤ h0 ∧ b ≤ h1 ∧ (c < z ∨ (c = z ∧ (b < y ∨ (b = y ∧ a < x))))
/-- what fill has judged before the turn c, b, a in game 3 -/
def hg_D3 (all two h2 c b a : Nat) : Nat → Nat → Nat → Prop := fun x y z => z ≤ h2 ∧ y + z ≤ two ∧ x + y + z ≤ all ∧ (z < c ∨ (z = c ∧ (y + z < b ∨ (y + z = b ∧ x + y + z < a))))
theorem hg_D_in {g z0 h0 h1 x y z : Nat} (h3 : g ≠ 3) (hz : (g = 4 ∨ g = 5) ∨ z0 = 0) (h0z : z0 ≤ z) (hx : x ≤ h0) (hy : y ≤ h1) {q : hg_T} (h : q ∈ hg_LX g x y z) : hg_D z0 h0 h1 z y x q.1 q.2.1 q.2.2 := by
  have hl := hg_less h3 h
  unfold hg_D
  rcases hz with hz | hz
  · have := hg_flat hz h
    omega
  · omega
theorem hg_D3_in {all two h2 x y z : Nat} (hz : z ≤ h2) (hy : y + z ≤ two) (hx : x + y + z ≤ all) {q : hg_T} (h : q ∈ hg_LX 3 x y z) : hg_D3 all two h2 z (y + z) (x + y + z) q.1 q.2.1 q.2.2 := by
  unfold hg_D3
  rcases hg_mem3.mp h with ⟨k, hk, rfl⟩ | ⟨k, hk, rfl⟩ | ⟨k, hk, rfl⟩ <;> (dsimp only; omega)
end
section
theorem hg_bltT {a b : Nat} : Nat.blt a b = true ↔ a < b := by
  unfold Nat.blt
  rw [Nat.ble_eq]
  exact Iff.rfl
theorem hg_bltF {a b : Nat} : Nat.blt a b = false ↔ b ≤ a := by
  constructor
  · intro h
    by_cases hl : a < b
    · rw [hg_bltT.mpr hl] at h
      exact Bool.noConfusion h
    · omega
  · intro h
    cases e : Nat.blt a b
    · rfl
    · have := hg_bltT.mp e
      omega
theorem hg_bleF {a b : Nat} : Nat.ble a b = false ↔ b < a := by
  constructor
  · intro h
    by_cases hl : a ≤ b
    · rw [Nat.ble_eq_true_of_le hl] at h
      exact Bool.noConfusion h
    · omega
  · intro h
    cases e : Nat.ble a b
    · rfl
    · have := Nat.le_of_ble_eq_true e
      omega
theorem hg_bleT {a b : Nat} : Nat.ble a b = true ↔ a ≤ b := by rw [Nat.ble_eq]
theorem hg_nar (b : Bool) : narrow .boolean (.int (hg_bI b)) = .int (hg_bI b) := by cases b <;> rfl
theorem hg_x3 {a b c : Nat} (ha : a ≤ 31) (hb : b ≤ 31) (hc : c ≤ 31) : a ^^^ b ^^^ c < 32 :=
  Nat.xor_lt_two_pow (n := 5) (Nat.xor_lt_two_pow (n := 5) (by omega) (by omega)) (by omega)
theorem hg_xI (a b c : Nat) : nI a ^^^ nI b ^^^ nI c = nI (a ^^^ b ^^^ c) := by rw [nx_xor, nx_xor]
theorem hx_lesser {post : Int32 → Prop} {a b : Nat} (ha : a < 2 ^ 31) (hb : b < 2 ^ 31) (h : post (nI (min a b))) : wpX_lesserOf post (nI a) (nI b) := by
  refine pk_le b a (fun hl => ?_) (fun hl => ?_) rfl rfl hb ha
  · have e : min a b = b := by omega
    rw [e] at h; exact h
  · have e : min a b = a := by omega
    rw [e] at h; exact h
theorem hx_og {post : Int32 → Prop} {x y : Nat} (hx : x ≤ 100) (hy : y ≤ 100) (h : post (hg_bI (hg_og x y))) : wpX_isOverGolden post (nI x) (nI y) := by
  have e1 : nI x * nI x = nI (x * x) := pk_mul x x
  have e2 : nI y * (nI x + nI y) = nI (y * (x + y)) := by rw [nI_add, pk_mul]
  have b1 : x * x ≤ 100 * 100 := Nat.mul_le_mul hx hx
  have b2 : y * (x + y) ≤ 100 * 200 := Nat.mul_le_mul hy (by omega)
  refine pk_le (x * x) (y * (x + y)) (fun hl => ?_) (fun hl => ?_) e1 e2 (by omega) (by omega)
  · have e : hg_og x y = false := hg_bltF.mpr hl
    rw [e] at h; exact h
  · have e : hg_og x y = true := hg_bltT.mpr hl
    rw [e] at h; exact h
theorem hx_w4 {post : Int32 → Prop} {a b : Nat} (ha : a ≤ 31) (hb : b ≤ 31) (h : post (hg_bI (hg_w4 a b))) : wpX_isWythoffWon post (nI a) (nI b) := by
  unfold wpX_isWythoffWon
  refine hx_lesser (by omega) (by omega) ?_
  have e2 : nI a + nI b - 2 * nI (min a b) = nI (a + b - 2 * min a b) := by
    show nI a + nI b - nI 2 * nI (min a b) = _
    rw [nI_add, pk_mul, pk_sub (by omega)]
  refine nm_r e2 ?_
  refine hx_og (by omega) (by omega) ?_
  unfold hg_w4 at h
  cases e : hg_og (min a b) (a + b - 2 * min a b)
  · rw [e] at h
    refine br_t rfl ?_
    rw [nI_1 (min a b)]
    refine hx_og (by omega) (by omega) ?_
    cases e' : hg_og (min a b + 1) (a + b - 2 * min a b)
    · rw [e'] at h
      exact br_t rfl h
    · rw [e'] at h
      exact br_f (by decide) h
  · rw [e] at h
    exact br_f (by decide) h
theorem hx_w5 {post : Int32 → Prop} {a b : Nat} (ha : a ≤ 31) (hb : b ≤ 31) (h : post (hg_bI (hg_w5 a b))) : wpX_isEuclidWon post (nI a) (nI b) := by
  unfold wpX_isEuclidWon
  refine hx_lesser (by omega) (by omega) ?_
  have e2 : nI a + nI b - nI (min a b) = nI (a + b - min a b) := by
    rw [nI_add, pk_sub (by omega)]
  refine nm_r e2 ?_
  unfold hg_w5 at h
  refine pk_eq (min a b) 0 (fun e => ?_) (fun e => ?_)
  · rw [hg_beqI.mpr e] at h
    exact h
  · rw [hg_beqF.mpr e] at h
    refine pk_eq (a + b - min a b) (min a b) (fun e3 => ?_) (fun e3 => ?_)
    · rw [hg_beqI.mpr e3] at h
      exact h
    · rw [hg_beqF.mpr e3] at h
      refine hx_og (by omega) (by omega) ?_
      cases e' : hg_og (a + b - min a b) (min a b)
      · rw [e'] at h
        exact br_t rfl h
      · rw [e'] at h
        exact br_f (by decide) h
theorem hx_m20 {post : Int32 → Prop} {a b c : Nat} (ha : a ≤ 31) (hb : b ≤ 31) (hc : c ≤ 31) (z : Bool) (h : post (hg_bI (Bool.xor (!(Nat.beq (a ^^^ b ^^^ c) 0)) z))) : wX_isMisereWon_20 post (nI a) (nI b) (nI c) (hg_bI z) := by
  have h3 := hg_x3 ha hb hc
  refine pk_eq (a ^^^ b ^^^ c) 0 (fun e => ?_) (fun e => ?_) (hg_xI a b c) rfl (by omega) (by omega)
  · rw [e] at h
    cases z
    · exact br_t rfl h
    · exact br_f (by decide) h
  · rw [hg_beqF.mpr e] at h
    cases z
    · exact br_f (by decide) h
    · exact br_t rfl h
theorem hx_w1 {post : Int32 → Prop} {a b c : Nat} (ha : a ≤ 31) (hb : b ≤ 31) (hc : c ≤ 31) (h : post (hg_bI (hg_w1 a b c))) : wpX_isMisereWon post (nI a) (nI b) (nI c) := by
  unfold hg_w1 at h
  refine pk_lt 1 a (fun h1 => ?_) (fun h1 => ?_)
  · rw [hg_bleF.mpr h1] at h
    exact hx_m20 ha hb hc false h
  · rw [hg_bleT.mpr h1] at h
    refine pk_lt 1 b (fun h2 => ?_) (fun h2 => ?_)
    · rw [hg_bleF.mpr h2] at h
      exact hx_m20 ha hb hc false h
    · rw [hg_bleT.mpr h2] at h
      refine pk_lt 1 c (fun h3 => ?_) (fun h3 => ?_)
      · rw [hg_bleF.mpr h3] at h
        exact hx_m20 ha hb hc false h
      · rw [hg_bleT.mpr h3] at h
        exact hx_m20 ha hb hc true h
theorem hx_w0 {post : Int32 → Prop} {a b c : Nat} (ha : a ≤ 31) (hb : b ≤ 31) (hc : c ≤ 31) (h : post (hg_bI (hg_w0 a b c))) : wX_isWon_106 post (nI a) (nI b) (nI c) := by
  have h3 := hg_x3 ha hb hc
  unfold hg_w0 at h
  refine pk_eq (a ^^^ b ^^^ c) 0 (fun e => ?_) (fun e => ?_) (hg_xI a b c) rfl (by omega) (by omega)
  · rw [hg_beqI.mpr e] at h
    exact h
  · rw [hg_beqF.mpr e] at h
    exact h
theorem hx_w7 {post : Int32 → Prop} {a b c : Nat} (h : post (hg_bI (hg_w7 a b c))) : (((nI a ^^^ nI b ^^^ nI c) &&& 3) = 0 → post 0) ∧ (¬ ((nI a ^^^ nI b ^^^ nI c) &&& 3) = 0 → post 1) := by
  have h3 : (a ^^^ b ^^^ c) &&& 3 < 4 := Nat.lt_of_le_of_lt Nat.and_le_right (by decide)
  unfold hg_w7 at h
  have e1 : (nI a ^^^ nI b ^^^ nI c) &&& 3 = nI ((a ^^^ b ^^^ c) &&& 3) := by
    rw [hg_xI]
    exact nx_and _ 3
  refine pk_eq ((a ^^^ b ^^^ c) &&& 3) 0 (fun e => ?_) (fun e => ?_) e1 rfl (by omega) (by omega)
  · rw [hg_beqI.mpr e] at h
    exact h
  · rw [hg_beqF.mpr e] at h
    exact h
theorem hx_won {post : Int32 → Prop} {g a b c : Nat} (hg : g < 8) (h6 : g ≠ 6) (ha : a ≤ 31) (hb : b ≤ 31) (hc : c ≤ 31) (h : post (hg_bI (hg_W g a b c))) : wpX_isWon post (nI g) (nI a) (nI b) (nI c) := by
  have : g = 0 ∨ g = 1 ∨ g = 2 ∨ g = 3 ∨ g = 4 ∨ g = 5 ∨ g = 7 := by omega
  rcases this with rfl | rfl | rfl | rfl | rfl | rfl | rfl
  · exact br_t (by decide) (hx_w0 ha hb hc h)
  · exact br_f (by decide) (br_f (by decide) (br_t rfl (hx_w1 ha hb hc ⟨hg_nar _, h⟩)))
  · refine br_f (by decide) (br_f (by decide) (br_f (by decide) (br_t rfl ?_)))
    have h' : post (hg_bI (!(Nat.beq a b && Nat.beq b c))) := h
    refine pk_eq a b (fun e => ?_) (fun e => ?_)
    · rw [hg_beqI.mpr e] at h'
      refine pk_eq b c (fun e2 => ?_) (fun e2 => ?_)
      · rw [hg_beqI.mpr e2] at h'
        exact h'
      · rw [hg_beqF.mpr e2] at h'
        exact h'
    · rw [hg_beqF.mpr e] at h'
      exact h'
  · refine br_f (by decide) (br_f (by decide) (br_f (by decide) (br_f (by decide) (br_t rfl ?_))))
    have h' : post (hg_bI (!(Nat.beq a c))) := h
    refine pk_eq a c (fun e => ?_) (fun e => ?_)
    · rw [hg_beqI.mpr e] at h'
      exact h'
    · rw [hg_beqF.mpr e] at h'
      exact h'
  · exact br_f (by decide) (br_f (by decide) (br_f (by decide) (br_f (by decide) (br_f (by decide) (br_t rfl (hx_w4 ha hb ⟨hg_nar _, h⟩))))))
  · exact br_f (by decide) (br_f (by decide) (br_f (by decide) (br_f (by decide) (br_f (by decide) (br_f (by decide) (br_t rfl (hx_w5 ha hb ⟨hg_nar _, h⟩)))))))
  · exact br_f (by decide) (br_f (by decide) (br_f (by decide) (br_f (by decide) (br_f (by decide) (br_f (by decide) (br_f (by decide) (br_f (by decide) (br_t rfl (hx_w7 h)))))))))
/-! game 6 -/
theorem hg_fst_le (p : Nat) (s : Nat × Nat) : (hg_fst p s).1 ≤ s.1 := by
  unfold hg_fst
  by_cases h : p ≤ s.1
  · rw [if_pos h]
    dsimp only
    omega
  · rw [if_neg h]
    omega
theorem hx_fs {post : Int32 → Prop} {x1 : Int32} {f p q k : Nat} (s : Nat × Nat) (hq : q ≤ p) (hp : p < 1000) (hs : s.1 < 1000) (hk : k < 9) (h : wX_isFibonacciWon_15 post x1 f (nI (hg_fst p s).1) (nI q) (nI (p - q)) (nI (hg_fst p s).2) (nI (k + 1))) : wX_isFibonacciWon_15 post x1 (f + 1) (nI s.1) (nI p) (nI q) (nI s.2) (nI k) := by
  have e9 : ¬ (9 : Int32) ≤ nI k := nI_ge (b := 9) hk (by decide)
  refine br_f e9 ?_
  unfold hg_fst at h
  refine pk_lt s.1 p (fun hl => ?_) (fun hl => ?_)
  · rw [if_neg (by omega)] at h
    exact nm_r (pk_sub hq) (nm_r (nI_1 k) h)
  · rw [if_pos hl] at h
    exact nm_r (pk_sub hl) (nm_r (pk_sub hq) (nm_r (nI_1 k) h))
theorem hx_fend {post : Int32 → Prop} {f l m : Nat} {x2 x3 x4 : Int32} (hl : l < 1000) (hm : m < 1000) (h : post (hg_bI (Nat.ble 1 l && Nat.ble l m))) : wX_isFibonacciWon_15 post (nI m) (f + 1) x2 x3 x4 (nI l) (nI 9) := by
  refine br_t (by decide) ?_
  refine pk_le l 0 (fun h1 => ?_) (fun h1 => ?_)
  · rw [hg_bleF.mpr (by omega)] at h
    exact h
  · rw [hg_bleT.mpr (by omega)] at h
    refine pk_lt m l (fun h2 => ?_) (fun h2 => ?_)
    · rw [hg_bleF.mpr h2] at h
      exact h
    · rw [hg_bleT.mpr h2] at h
      exact h
theorem hx_fib {post : Int32 → Prop} {n m : Nat} (hn : n ≤ 60) (hm : m < 1000) (h : post (hg_bI (hg_w6 n m))) : wpX_isFibonacciWon post (nI n) (nI m) := by
  have hl := hg_l1 hn
  have b1 := hg_fst_le 55 (n, 0)
  have b2 := hg_fst_le 34 (hg_fst 55 (n, 0))
  have b3 := hg_fst_le 21 (hg_fst 34 (hg_fst 55 (n, 0)))
  have b4 := hg_fst_le 13 (hg_fst 21 (hg_fst 34 (hg_fst 55 (n, 0))))
  have b5 := hg_fst_le 8 (hg_fst 13 (hg_fst 21 (hg_fst 34 (hg_fst 55 (n, 0)))))
  have b6 := hg_fst_le 5 (hg_fst 8 (hg_fst 13 (hg_fst 21 (hg_fst 34 (hg_fst 55 (n, 0))))))
  have b7 := hg_fst_le 3 (hg_fst 5 (hg_fst 8 (hg_fst 13 (hg_fst 21 (hg_fst 34 (hg_fst 55 (n, 0)))))))
  have b8 := hg_fst_le 2 (hg_fst 3 (hg_fst 5 (hg_fst 8 (hg_fst 13 (hg_fst 21 (hg_fst 34 (hg_fst 55 (n, 0))))))))
  dsimp only at b1
  refine ⟨10, ?_⟩
  refine hx_fs (p := 55) (q := 34) (k := 0) (n, 0) (by omega) (by omega) (by dsimp only; omega) (by omega) ?_
  refine hx_fs (p := 34) (q := 21) (k := 1) _ (by omega) (by omega) (by omega) (by omega) ?_
  refine hx_fs (p := 21) (q := 13) (k := 2) _ (by omega) (by omega) (by omega) (by omega) ?_
  refine hx_fs (p := 13) (q := 8) (k := 3) _ (by omega) (by omega) (by omega) (by omega) ?_
  refine hx_fs (p := 8) (q := 5) (k := 4) _ (by omega) (by omega) (by omega) (by omega) ?_
  refine hx_fs (p := 5) (q := 3) (k := 5) _ (by omega) (by omega) (by omega) (by omega) ?_
  refine hx_fs (p := 3) (q := 2) (k := 6) _ (by omega) (by omega) (by omega) (by omega) ?_
  refine hx_fs (p := 2) (q := 1) (k := 7) _ (by omega) (by omega) (by omega) (by omega) ?_
  refine hx_fs (p := 1) (q := 1) (k := 8) _ (by omega) (by omega) (by omega) (by omega) ?_
  exact hx_fend (l := hg_lst n) (by omega) hm h
/-! with the heaps -/
def hg_Hp (h : Nat → Int32) (x y z : Nat) : Prop := h 0 = nI x ∧ h 1 = nI y ∧ h 2 = nI z
def hg_pl (x y : Nat) : Nat := min (x + 16 * y) 60
theorem hx_pile {post : Int32 → Prop} {l : Int32} {h a : Nat → Int32} {x y z : Nat} (H : hg_Hp h x y z) (hx : x ≤ 15) (hy : y ≤ 15) (hp : post (nI (hg_pl x y))) : wpX_pile post (l, h, a) := by
  have e : h 0 + 16 * h 1 = nI (x + 16 * y) := by
    rw [H.1, H.2.1]
    show nI x + nI 16 * nI y = _
    rw [pk_mul, nI_add]
  refine nm_r e ?_
  exact hx_lesser (b := 60) (by omega) (by omega) hp
def hg_Wn (g x y z : Nat) : Bool := if g = 6 then hg_w6 (hg_pl x y) z else hg_W g x y z
theorem hx_now {post : Int32 → Prop} {l : Int32} {h a : Nat → Int32} {g x y z : Nat} (H : hg_Hp h x y z) (hg : g < 8) (hx : x ≤ 15) (hy : y ≤ 15) (hz : z ≤ 15) (hp : post (hg_bI (hg_Wn g x y z))) : wpX_isWonNow post (l, h, a) (nI g) := by
  refine pk_eq g 6 (fun e => ?_) (fun e => ?_)
  · subst e
    refine hx_pile H hx hy ?_
    rw [H.2.2]
    exact hx_fib (by unfold hg_pl; omega) (by omega) ⟨hg_nar _, hp⟩
  · rw [H.1, H.2.1, H.2.2]
    unfold hg_Wn at hp
    rw [if_neg e] at hp
    exact hx_won hg e (by omega) (by omega) (by omega) ⟨hg_nar _, hp⟩
/-- whether the move with number v leaves a won position -/
def hg_PA (g x y v : Nat) : Bool := if g = 6 then hg_w6 (hg_pl x y - v) (2 * v) else hg_W g (v % 32) (v % 1024 / 32) (v / 1024)
theorem hx_after {post : Int32 → Prop} {l : Int32} {h a : Nat → Int32} {g x y z v : Nat} (H : hg_Hp h x y z) (hg : g < 8) (hx : x ≤ 15) (hy : y ≤ 15) (hz : z ≤ 15) (hv : v < 32768) (hv6 : g = 6 → v ≤ hg_pl x y) (hp : post (hg_bI (hg_PA g x y v))) : wpX_isWonAfter post (l, h, a) (nI g) (nI v) := by
  refine pk_eq g 6 (fun e => ?_) (fun e => ?_)
  · subst e
    have hv' := hv6 rfl
    have hpl : hg_pl x y ≤ 60 := by unfold hg_pl; omega
    refine hx_pile H hx hy ?_
    refine nm_r (pk_sub hv') ?_
    have e2 : 2 * nI v = nI (2 * v) := pk_mul 2 v
    rw [e2]
    exact hx_fib (by omega) (by omega) ⟨hg_nar _, hp⟩
  · unfold hg_PA at hp
    rw [if_neg e] at hp
    have e0 : nI v - nI v / 32 * 32 = nI (v % 32) := pk_rem (d := 32) (by omega) (by omega) (by omega)
    have e1 : (nI v - nI v / 1024 * 1024) / 32 = nI (v % 1024 / 32) := by
      have := pk_rem (a := v) (d := 1024) (by omega) (by omega) (by omega)
      show (nI v - nI v / nI 1024 * nI 1024) / nI 32 = _
      rw [this, pk_div (by omega) (by omega) (by omega)]
    have e2 : nI v / 1024 = nI (v / 1024) := pk_div (d := 1024) (by omega) (by omega) (by omega)
    refine ⟨by decide, ?_⟩
    refine ⟨by decide, by decide, ?_⟩
    refine ⟨by decide, ?_⟩
    rw [e0, e1, e2]
    exact hx_won hg e (by omega) (by omega) (by omega) ⟨hg_nar _, hp⟩
end
section
theorem hx_run3 {post : SX → Prop} {fr st : Int32} {c : Nat} {h : Nat → Int32} (f : Nat → Nat) (hc : c < 1000) (hf : ∀ j, j < c → fr - nI (j + 1) * st = nI (f j)) : ∀ (d k : Nat) (L : List Nat) (a : Nat → Int32), k + d = c → hg_H a L → L.length + d ≤ 720 → (∀ a', hg_H a' (L ++ (List.range' k d).map f) → post (nI (L.length + d), h, a')) → wX_listRun_3 post fr st (nI c) (d + 1) (nI (k + 1)) (nI L.length) h a
  | 0, k, L, a, hk, hH, hl, hp => by
    have hlt : nI c < nI (k + 1) := nI_lt (by omega) (by omega)
    have := hp a (by rw [show (List.range' k 0).map f = [] from rfl, List.append_nil]; exact hH)
    exact br_t hlt this
  | d + 1, k, L, a, hk, hH, hl, hp => by
    have hlt : ¬ nI c < nI (k + 1) := nI_nlt (by omega) (by omega)
    have h7 : ¬ (720 : Int32) ≤ nI L.length := nI_ge (b := 720) (by omega) (by decide)
    refine br_f hlt (br_f h7 ⟨vp_in_nI (by omega) (by decide), ?_⟩)
    refine nm_r (e' := upd a L.length (nI (f k))) (by rw [nI_clamp (by omega), hf k (by omega)]) ?_
    refine nm_r (nI_1 _) (nm_r (nI_1 _) ?_)
    have ih := hx_run3 (post := post) (h := h) f hc hf d (k + 1) (L ++ [f k]) (upd a L.length (nI (f k))) (by omega) (hg_H_app hH (f k)) (by rw [List.length_append]; show L.length + 1 + d ≤ 720; omega) (by
      intro a' H'
      have e : L ++ (List.range' k (d + 1)).map f = L ++ [f k] ++ (List.range' (k + 1) d).map f := by
        rw [List.range'_succ, List.map_cons, List.append_assoc]
        rfl
      have e2 : (L ++ [f k]).length + d = L.length + (d + 1) := by
        rw [List.length_append]
        show L.length + 1 + d = _
        omega
      rw [e2]
      exact hp a' (by rw [e]; exact H'))
    rw [List.length_append] at ih
    exact ih
theorem hx_run {post : SX → Prop} {fr st l : Int32} {c : Nat} {h a : Nat → Int32} {L : List Nat} (f : Nat → Nat) (hl0 : l = nI L.length) (hH : hg_H a L) (hl : L.length + c ≤ 720) (hf : ∀ j, j < c → fr - nI (j + 1) * st = nI (f j)) (hp : ∀ a', hg_H a' (L ++ (List.range c).map f) → post (nI (L.length + c), h, a')) : wpX_listRun post (l, h, a) fr st (nI c) := by
  subst hl0
  refine ⟨c + 1, ?_⟩
  refine hx_run3 (post := post) (h := h) f (by omega) hf c 0 L a (by omega) hH hl ?_
  rw [← List.range_eq_range']
  exact hp
theorem hg_run_num (c : Nat) (f : Nat → hg_T) : (hg_run c f).map hg_num = (List.range c).map (fun k => hg_num (f k)) := by
  unfold hg_run
  rw [List.map_map]
  rfl
theorem hx_runT {post : SX → Prop} {fr st l : Int32} {c : Nat} {h a : Nat → Int32} (M : List hg_T) (f : Nat → hg_T) (hl0 : l = nI M.length) (hH : hg_H a (M.map hg_num)) (hl : M.length + c ≤ 720) (hf : ∀ j, j < c → fr - nI (j + 1) * st = nI (hg_num (f j))) (hp : ∀ a', hg_H a' ((M ++ hg_run c f).map hg_num) → post (nI (M ++ hg_run c f).length, h, a')) : wpX_listRun post (l, h, a) fr st (nI c) := by
  have e : (M.map hg_num).length = M.length := List.length_map _
  refine hx_run (L := M.map hg_num) (fun k => hg_num (f k)) (by rw [e]; exact hl0) hH (by rw [e]; exact hl) hf ?_
  intro a' H'
  rw [← hg_run_num, ← List.map_append] at H'
  have h2 := hp a' H'
  rw [List.length_append, hg_run_len] at h2
  rw [e]
  exact h2
theorem hg_numI (x y z : Nat) : nI x * 1 + nI y * 32 + nI z * 1024 = nI (hg_num (x, y, z)) := by
  show nI x * nI 1 + nI y * nI 32 + nI z * nI 1024 = _
  rw [pk_mul, pk_mul, pk_mul, nI_add, nI_add]
  congr 1
  unfold hg_num
  dsimp only
  omega
theorem hx_num {post : Int32 → Prop} {l : Int32} {h a : Nat → Int32} {x y z : Nat} (H : hg_Hp h x y z) (hp : post (nI (hg_num (x, y, z)))) : wpX_numberNow post (l, h, a) := by
  show post (h 0 * 1 + h 1 * 32 + h 2 * 1024)
  rw [H.1, H.2.1, H.2.2, hg_numI]
  exact hp
theorem hg_sub {N m s : Nat} (h : m * s ≤ N) : nI N - nI m * nI s = nI (N - m * s) := by rw [pk_mul, pk_sub h]
theorem hg_stepI {N s c : Nat} {f : Nat → hg_T} (h : ∀ j, j < c → (j + 1) * s ≤ N ∧ N - (j + 1) * s = hg_num (f j)) : ∀ j, j < c → nI N - nI (j + 1) * nI s = nI (hg_num (f j)) := by
  intro j hj
  rw [hg_sub (h j hj).1, (h j hj).2]
theorem hg_num_mk (x y z : Nat) : hg_num (x, y, z) = x + 32 * y + 1024 * z := rfl
/-- the three runs of one heap each -/
def hg_L3 (m x y z : Nat) : List hg_T := hg_run (min x m) (fun k => (x - (k + 1), y, z)) ++ hg_run (min y m) (fun k => (x, y - (k + 1), z)) ++ hg_run (min z m) (fun k => (x, y, z - (k + 1)))
theorem hx_one {post : SX → Prop} {h a : Nat → Int32} {m x y z : Nat} (H : hg_Hp h x y z) (hx : x ≤ 15) (hy : y ≤ 15) (hz : z ≤ 15) (hm : m ≤ 15) (hp : ∀ a', hg_H a' ((hg_L3 m x y z).map hg_num) → post (nI (hg_L3 m x y z).length, h, a')) : wpX_listOneHeapMoves post (0, h, a) (nI m) := by
  unfold wpX_listOneHeapMoves
  dsimp only
  refine hx_num H ?_
  rw [H.1, H.2.1, H.2.2]
  refine hx_lesser (by omega) (by omega) ?_
  refine hx_lesser (by omega) (by omega) ?_
  refine hx_lesser (by omega) (by omega) ?_
  refine hx_runT [] (fun k => (x - (k + 1), y, z)) rfl (hg_H_0 _) (by show 0 + _ ≤ 720; omega) (hg_stepI (s := 1) (fun j hj => by rw [hg_num_mk, hg_num_mk]; omega)) (fun a1 H1 => ?_)
  rw [List.nil_append] at H1 ⊢
  refine hx_runT (hg_run (min x m) (fun k => (x - (k + 1), y, z))) (fun k => (x, y - (k + 1), z)) rfl H1 (by rw [hg_run_len]; omega) (hg_stepI (s := 32) (fun j hj => by rw [hg_num_mk, hg_num_mk]; omega)) (fun a2 H2 => ?_)
  refine hx_runT (hg_run (min x m) (fun k => (x - (k + 1), y, z)) ++ hg_run (min y m) (fun k => (x, y - (k + 1), z))) (fun k => (x, y, z - (k + 1))) rfl H2 (by rw [List.length_append, hg_run_len, hg_run_len]; omega) (hg_stepI (s := 1024) (fun j hj => by rw [hg_num_mk, hg_num_mk]; omega)) (fun a3 H3 => ?_)
  exact hp a3 H3
theorem hg_L3_len {m x y z : Nat} : (hg_L3 m x y z).length = min x m + min y m + min z m := by
  unfold hg_L3
  rw [List.length_append, List.length_append, hg_run_len, hg_run_len, hg_run_len]
theorem hg_flen {n b : Nat} {f : Nat → List hg_T} (h : ∀ k, (f k).length = b) : ((List.range n).flatMap f).length = n * b := by
  induction n with
  | zero => rw [Nat.zero_mul]; rfl
  | succ n ih => rw [List.range_succ, List.flatMap_append, List.flatMap_singleton, List.length_append, ih, h, Nat.succ_mul]
def hg_G1 (x y z : Nat) : Nat → List hg_T := fun k => hg_run y (fun m => (x - (k + 1), y - (m + 1), z)) ++ hg_run z (fun m => (x - (k + 1), y, z - (m + 1)))
def hg_G2 (x y z : Nat) : Nat → List hg_T := fun k => hg_run z (fun m => (x, y - (k + 1), z - (m + 1)))
theorem hg_G1_len (x y z k : Nat) : (hg_G1 x y z k).length = y + z := by
  unfold hg_G1
  rw [List.length_append, hg_run_len, hg_run_len]
theorem hg_G2_len (x y z k : Nat) : (hg_G2 x y z k).length = z := by
  unfold hg_G2
  rw [hg_run_len]
theorem hg_fs_s (n : Nat) (f : Nat → List hg_T) : (List.range (n + 1)).flatMap f = (List.range n).flatMap f ++ f n := by
  rw [List.range_succ, List.flatMap_append, List.flatMap_singleton]
theorem hx_two60 {post : SX → Prop} {h : Nat → Int32} {x y z : Nat} (H : hg_Hp h x y z) (hx : x ≤ 15) (hy : y ≤ 15) (hz : z ≤ 15) (M : List hg_T) (hM : M.length ≤ 495) (hp : ∀ a', hg_H a' ((M ++ (List.range y).flatMap (hg_G2 x y z)).map hg_num) → post (nI (M ++ (List.range y).flatMap (hg_G2 x y z)).length, h, a')) : ∀ (d k : Nat) (a : Nat → Int32), k + d = y → hg_H a ((M ++ (List.range k).flatMap (hg_G2 x y z)).map hg_num) → wX_listTwoHeapMoves_60 post (nI (hg_num (x, y, z))) (d + 1) (nI (k + 1)) (nI (M ++ (List.range k).flatMap (hg_G2 x y z)).length) h a
  | 0, k, a, hk, hH => by
    have e : k = y := by omega
    subst e
    have hlt : h 1 < nI (k + 1) := by rw [H.2.1]; exact nI_lt (by omega) (by omega)
    exact br_t hlt (hp a hH)
  | d + 1, k, a, hk, hH => by
    have hlt : ¬ h 1 < nI (k + 1) := by rw [H.2.1]; exact nI_nlt (by omega) (by omega)
    refine br_f hlt ?_
    rw [H.2.2]
    have hb : (k + 1) * z ≤ 15 * 15 := Nat.mul_le_mul (by omega) hz
    rw [Nat.succ_mul] at hb
    have e1 : nI (hg_num (x, y, z)) - nI (k + 1) * 32 = nI (hg_num (x, y, z) - (k + 1) * 32) := hg_sub (s := 32) (by rw [hg_num_mk]; omega)
    rw [e1]
    refine hx_runT (M ++ (List.range k).flatMap (hg_G2 x y z)) (fun m => (x, y - (k + 1), z - (m + 1))) rfl hH (by rw [List.length_append, hg_flen (hg_G2_len x y z)]; omega) (hg_stepI (s := 1024) (fun j hj => by rw [hg_num_mk, hg_num_mk]; omega)) (fun a1 H1 => ?_)
    refine nm_r (nI_1 _) ?_
    have ih := hx_two60 H hx hy hz M hM hp d (k + 1) a1 (by omega) (by rw [hg_fs_s, ← List.append_assoc]; exact H1)
    rw [hg_fs_s, ← List.append_assoc] at ih
    exact ih
theorem hx_two7 {post : SX → Prop} {h : Nat → Int32} {x y z : Nat} (H : hg_Hp h x y z) (hx : x ≤ 15) (hy : y ≤ 15) (hz : z ≤ 15) (M : List hg_T) (hM : M.length ≤ 45) (hp : ∀ a', hg_H a' ((M ++ (List.range x).flatMap (hg_G1 x y z)).map hg_num) → ∃ n60 : Nat, wX_listTwoHeapMoves_60 post (nI (hg_num (x, y, z))) n60 1 (nI (M ++ (List.range x).flatMap (hg_G1 x y z)).length) h a') : ∀ (d k : Nat) (a : Nat → Int32), k + d = x → hg_H a ((M ++ (List.range k).flatMap (hg_G1 x y z)).map hg_num) → wX_listTwoHeapMoves_7 post (nI (hg_num (x, y, z))) (d + 1) (nI (k + 1)) (nI (M ++ (List.range k).flatMap (hg_G1 x y z)).length) h a
  | 0, k, a, hk, hH => by
    have e : k = x := by omega
    subst e
    have hlt : h 0 < nI (k + 1) := by rw [H.1]; exact nI_lt (by omega) (by omega)
    exact br_t hlt (hp a hH)
  | d + 1, k, a, hk, hH => by
    have hlt : ¬ h 0 < nI (k + 1) := by rw [H.1]; exact nI_nlt (by omega) (by omega)
    refine br_f hlt ?_
    rw [H.2.1]
    have hb : (k + 1) * (y + z) ≤ 15 * 30 := Nat.mul_le_mul (by omega) (by omega)
    rw [Nat.succ_mul] at hb
    have e1 : nI (hg_num (x, y, z)) - nI (k + 1) * 1 = nI (hg_num (x, y, z) - (k + 1) * 1) := hg_sub (s := 1) (by rw [hg_num_mk]; omega)
    rw [e1]
    refine hx_runT (M ++ (List.range k).flatMap (hg_G1 x y z)) (fun m => (x - (k + 1), y - (m + 1), z)) rfl hH (by rw [List.length_append, hg_flen (hg_G1_len x y z)]; omega) (hg_stepI (s := 32) (fun j hj => by rw [hg_num_mk, hg_num_mk]; omega)) (fun a1 H1 => ?_)
    dsimp only
    rw [H.2.2]
    refine hx_runT (M ++ (List.range k).flatMap (hg_G1 x y z) ++ hg_run y (fun m => (x - (k + 1), y - (m + 1), z))) (fun m => (x - (k + 1), y, z - (m + 1))) rfl H1 (by rw [List.length_append, List.length_append, hg_run_len, hg_flen (hg_G1_len x y z)]; omega) (hg_stepI (s := 1024) (fun j hj => by rw [hg_num_mk, hg_num_mk]; omega)) (fun a2 H2 => ?_)
    refine nm_r (nI_1 _) ?_
    have e2 : M ++ (List.range (k + 1)).flatMap (hg_G1 x y z) = M ++ (List.range k).flatMap (hg_G1 x y z) ++ hg_run y (fun m => (x - (k + 1), y - (m + 1), z)) ++ hg_run z (fun m => (x - (k + 1), y, z - (m + 1))) := by
      rw [hg_fs_s, List.append_assoc, List.append_assoc]
      rfl
    have ih := hx_two7 H hx hy hz M hM hp d (k + 1) a2 (by omega) (by rw [e2]; exact H2)
    rw [e2] at ih
    exact ih
theorem hx_two {post : SX → Prop} {l : Int32} {h a : Nat → Int32} {x y z : Nat} (H : hg_Hp h x y z) (hx : x ≤ 15) (hy : y ≤ 15) (hz : z ≤ 15) (M : List hg_T) (hM : M.length ≤ 45) (hl : l = nI M.length) (hH : hg_H a (M.map hg_num)) (hp : ∀ a', hg_H a' ((M ++ (List.range x).flatMap (hg_G1 x y z) ++ (List.range y).flatMap (hg_G2 x y z)).map hg_num) → post (nI (M ++ (List.range x).flatMap (hg_G1 x y z) ++ (List.range y).flatMap (hg_G2 x y z)).length, h, a')) : wpX_listTwoHeapMoves post (l, h, a) := by
  subst hl
  unfold wpX_listTwoHeapMoves
  dsimp only
  refine hx_num H ⟨x + 1, ?_⟩
  have h7 := hx_two7 (post := post) H hx hy hz M hM (fun a' H' => ⟨y + 1, by
    have hb : x * (y + z) ≤ 15 * 30 := Nat.mul_le_mul hx (by omega)
    have h6 := hx_two60 (post := post) H hx hy hz (M ++ (List.range x).flatMap (hg_G1 x y z)) (by rw [List.length_append, hg_flen (hg_G1_len x y z)]; omega) hp y 0 a' (by omega) (by rw [show (List.range 0).flatMap (hg_G2 x y z) = [] from rfl, List.append_nil]; exact H')
    rw [show (List.range 0).flatMap (hg_G2 x y z) = [] from rfl, List.append_nil] at h6
    exact h6⟩) x 0 a (by omega) (by rw [show (List.range 0).flatMap (hg_G1 x y z) = [] from rfl, List.append_nil]; exact hH)
  rw [show (List.range 0).flatMap (hg_G1 x y z) = [] from rfl, List.append_nil] at h7
  exact h7
theorem hx_stair {post : SX → Prop} {h a : Nat → Int32} {x y z : Nat} (H : hg_Hp h x y z) (hx : x ≤ 15) (hy : y ≤ 15) (hz : z ≤ 15) (hp : ∀ a', hg_H a' ((hg_LX 3 x y z).map hg_num) → post (nI (hg_LX 3 x y z).length, h, a')) : wpX_listStaircaseMoves post (0, h, a) := by
  unfold wpX_listStaircaseMoves
  dsimp only
  refine hx_num H ?_
  rw [H.1]
  refine hx_runT [] (fun k => (x - (k + 1), y, z)) rfl (hg_H_0 _) (by show 0 + _ ≤ 720; omega) (hg_stepI (s := 1) (fun j hj => by rw [hg_num_mk, hg_num_mk]; omega)) (fun a1 H1 => ?_)
  dsimp only
  rw [List.nil_append] at H1 ⊢
  rw [H.2.1]
  refine hx_runT (hg_run x (fun k => (x - (k + 1), y, z))) (fun k => (x + (k + 1), y - (k + 1), z)) rfl H1 (by rw [hg_run_len]; omega) (hg_stepI (s := 31) (fun j hj => by rw [hg_num_mk, hg_num_mk]; omega)) (fun a2 H2 => ?_)
  dsimp only
  rw [H.2.2]
  refine hx_runT (hg_run x (fun k => (x - (k + 1), y, z)) ++ hg_run y (fun k => (x + (k + 1), y - (k + 1), z))) (fun k => (x, y + (k + 1), z - (k + 1))) rfl H2 (by rw [List.length_append, hg_run_len, hg_run_len]; omega) (hg_stepI (s := 992) (fun j hj => by rw [hg_num_mk, hg_num_mk]; omega)) (fun a3 H3 => ?_)
  exact hp a3 H3
theorem hx_wyth {post : SX → Prop} {h a : Nat → Int32} {x y z : Nat} (H : hg_Hp h x y z) (hx : x ≤ 15) (hy : y ≤ 15) (hz : z ≤ 15) (hp : ∀ a', hg_H a' ((hg_LX 4 x y z).map hg_num) → post (nI (hg_LX 4 x y z).length, h, a')) : wpX_listWythoffMoves post (0, h, a) := by
  unfold wpX_listWythoffMoves
  dsimp only
  refine hx_num H ?_
  rw [H.1, H.2.1]
  refine hx_lesser (by omega) (by omega) ?_
  refine hx_runT [] (fun k => (x - (k + 1), y, z)) rfl (hg_H_0 _) (by show 0 + _ ≤ 720; omega) (hg_stepI (s := 1) (fun j hj => by rw [hg_num_mk, hg_num_mk]; omega)) (fun a1 H1 => ?_)
  dsimp only
  rw [List.nil_append] at H1 ⊢
  rw [H.2.1]
  refine hx_runT (hg_run x (fun k => (x - (k + 1), y, z))) (fun k => (x, y - (k + 1), z)) rfl H1 (by rw [hg_run_len]; omega) (hg_stepI (s := 32) (fun j hj => by rw [hg_num_mk, hg_num_mk]; omega)) (fun a2 H2 => ?_)
  refine hx_runT (hg_run x (fun k => (x - (k + 1), y, z)) ++ hg_run y (fun k => (x, y - (k + 1), z))) (fun k => (x - (k + 1), y - (k + 1), z)) rfl H2 (by rw [List.length_append, hg_run_len, hg_run_len]; omega) (hg_stepI (s := 33) (fun j hj => by rw [hg_num_mk, hg_num_mk]; omega)) (fun a3 H3 => ?_)
  exact hp a3 H3
theorem hx_eucl {post : SX → Prop} {h a : Nat → Int32} {x y z : Nat} (H : hg_Hp h x y z) (hx : x ≤ 15) (hy : y ≤ 15) (hz : z ≤ 15) (hp : ∀ a', hg_H a' ((hg_LX 5 x y z).map hg_num) → post (nI (hg_LX 5 x y z).length, h, a')) : wpX_listEuclidMoves post (0, h, a) := by
  have eL : hg_LX 5 x y z = if x = 0 ∨ y = 0 then [] else hg_run (x / y) (fun k => (x - (k + 1) * y, y, z)) ++ hg_run (y / x) (fun k => (x, y - (k + 1) * x, z)) := rfl
  unfold wpX_listEuclidMoves
  dsimp only
  rw [H.1, H.2.1]
  refine pk_eq x 0 (fun e => ?_) (fun e => ?_)
  · rw [eL, if_pos (Or.inl e)] at hp
    exact hp a (hg_H_0 _)
  · refine pk_eq y 0 (fun e2 => ?_) (fun e2 => ?_)
    · rw [eL, if_pos (Or.inr e2)] at hp
      exact hp a (hg_H_0 _)
    · rw [eL, if_neg (by omega)] at hp
      refine hx_num H ?_
      have d1 : x / y ≤ x := Nat.div_le_self x y
      have d2 : y / x ≤ y := Nat.div_le_self y x
      have s1 : nI y * 1 = nI y := by
        have := pk_mul y 1
        rw [Nat.mul_one] at this
        exact this
      have s2 : nI x * 32 = nI (x * 32) := pk_mul x 32
      refine ⟨nI_ne0 (by omega) (by omega), ?_⟩
      rw [s1, pk_div (by omega) (by omega) (by omega)]
      refine hx_runT [] (fun k => (x - (k + 1) * y, y, z)) rfl (hg_H_0 _) (by show 0 + _ ≤ 720; omega) (hg_stepI (s := y) (fun j hj => by
        have := hg_kdiv hj
        rw [hg_num_mk, hg_num_mk]
        omega)) (fun a1 H1 => ?_)
      dsimp only
      rw [List.nil_append] at H1 ⊢
      rw [H.1, H.2.1]
      refine ⟨nI_ne0 (by omega) (by omega), ?_⟩
      rw [s2, pk_div (by omega) (by omega) (by omega)]
      refine hx_runT (hg_run (x / y) (fun k => (x - (k + 1) * y, y, z))) (fun k => (x, y - (k + 1) * x, z)) rfl H1 (by rw [hg_run_len]; omega) (hg_stepI (s := x * 32) (fun j hj => by
        have := hg_kdiv hj
        have e3 : (j + 1) * (x * 32) = 32 * ((j + 1) * x) := by rw [← Nat.mul_assoc, Nat.mul_comm]
        rw [hg_num_mk, hg_num_mk, e3]
        omega)) (fun a2 H2 => ?_)
      exact hp a2 H2
theorem hg_neg1 (a : Int32) : 0 - a * (-1) = a := by
  rw [Int32.mul_neg, Int32.mul_one, Int32.zero_sub, Int32.neg_neg]
theorem hx_fibm {post : SX → Prop} {h a : Nat → Int32} {x y z : Nat} (H : hg_Hp h x y z) (hx : x ≤ 15) (hy : y ≤ 15) (hz : z ≤ 15) (hp : ∀ a', hg_H a' (hg_N6 (hg_pl x y) z) → post (nI (hg_N6 (hg_pl x y) z).length, h, a')) : wpX_listFibonacciMoves post (0, h, a) := by
  unfold wpX_listFibonacciMoves
  dsimp only
  refine hx_pile H hx hy ?_
  have hpl : hg_pl x y ≤ 60 := by unfold hg_pl; omega
  rw [H.2.2]
  refine hx_lesser (by omega) (by omega) ?_
  refine hx_run (L := []) (fun k => k + 1) rfl (hg_H_0 _) (by show 0 + _ ≤ 720; omega) (fun j hj => hg_neg1 _) (fun a1 H1 => ?_)
  have h2 := hp a1 H1
  have e : (hg_N6 (hg_pl x y) z).length = 0 + min (hg_pl x y) z := by
    unfold hg_N6
    rw [List.length_map, List.length_range, Nat.zero_add]
  rw [e] at h2
  exact h2
/-- the numbers of all moves, as X lists them -/
def hg_XN (g x y z : Nat) : List Nat := if g = 6 then hg_N6 (hg_pl x y) z else (hg_LX g x y z).map hg_num
theorem hg_XN_6 {g x y z : Nat} (h : g ≠ 6) : hg_XN g x y z = (hg_LX g x y z).map hg_num := if_neg h
theorem hg_LX_1 {g x y z : Nat} (h2 : g ≠ 2) (h3 : g ≠ 3) (h4 : g ≠ 4) (h5 : g ≠ 5) : hg_LX g x y z = hg_L3 (if g = 7 then 3 else 15) x y z := by
  unfold hg_LX
  rw [if_neg h2, if_neg h3, if_neg h4, if_neg h5]
  rfl
theorem hg_LX_2 {x y z : Nat} (hx : x ≤ 15) (hy : y ≤ 15) (hz : z ≤ 15) : hg_LX 2 x y z = hg_L3 15 x y z ++ (List.range x).flatMap (hg_G1 x y z) ++ (List.range y).flatMap (hg_G2 x y z) := by
  have ex : min x 15 = x := by omega
  have ey : min y 15 = y := by omega
  have ez : min z 15 = z := by omega
  unfold hg_L3
  rw [ex, ey, ez, List.append_assoc _ ((List.range x).flatMap (hg_G1 x y z))]
  rfl
theorem hx_moves {post : SX → Prop} {l : Int32} {h a : Nat → Int32} {g x y z : Nat} (H : hg_Hp h x y z) (hg : g < 8) (hx : x ≤ 15) (hy : y ≤ 15) (hz : z ≤ 15) (hp : ∀ a', hg_H a' (hg_XN g x y z) → post (nI (hg_XN g x y z).length, h, a')) : wpX_listMoves post (l, h, a) (nI g) := by
  have hp' : g ≠ 6 → ∀ a', hg_H a' ((hg_LX g x y z).map hg_num) → post (nI (hg_LX g x y z).length, h, a') := by
    intro h6 a' H'
    rw [hg_XN_6 h6] at hp
    have := hp a' H'
    rw [List.length_map] at this
    exact this
  have hc : g = 0 ∨ g = 1 ∨ g = 2 ∨ g = 3 ∨ g = 4 ∨ g = 5 ∨ g = 6 ∨ g = 7 := by omega
  rcases hc with rfl | rfl | rfl | rfl | rfl | rfl | rfl | rfl
  · have hq := hp' (by decide)
    rw [hg_LX_1 (by decide) (by decide) (by decide) (by decide)] at hq
    exact br_t (by decide) (hx_one (m := 15) H hx hy hz (by decide) hq)
  · have hq := hp' (by decide)
    rw [hg_LX_1 (by decide) (by decide) (by decide) (by decide)] at hq
    exact br_t (by decide) (hx_one (m := 15) H hx hy hz (by decide) hq)
  · have hq := hp' (by decide)
    rw [hg_LX_2 hx hy hz] at hq
    refine br_f (by decide) (br_f (by decide) (br_t rfl (hx_one (m := 15) H hx hy hz (by decide) (fun a1 H1 => ?_))))
    exact hx_two H hx hy hz (hg_L3 15 x y z) (by rw [hg_L3_len]; omega) rfl H1 hq
  · exact br_f (by decide) (br_f (by decide) (br_f (by decide) (br_t rfl (hx_stair H hx hy hz (hp' (by decide))))))
  · exact br_f (by decide) (br_f (by decide) (br_f (by decide) (br_f (by decide) (br_t rfl (hx_wyth H hx hy hz (hp' (by decide)))))))
  · exact br_f (by decide) (br_f (by decide) (br_f (by decide) (br_f (by decide) (br_f (by decide) (br_t rfl (hx_eucl H hx hy hz (hp' (by decide))))))))
  · exact br_f (by decide) (br_f (by decide) (br_f (by decide) (br_f (by decide) (br_f (by decide) (br_f (by decide) (br_t rfl (hx_fibm H hx hy hz hp)))))))
  · have hq := hp' (by decide)
    rw [hg_LX_1 (by decide) (by decide) (by decide) (by decide)] at hq
    exact br_f (by decide) (br_f (by decide) (br_f (by decide) (br_f (by decide) (br_f (by decide) (br_f (by decide) (br_f (by decide) (br_t rfl (hx_one (m := 3) H hx hy hz (by decide) hq))))))))
end
section
theorem hg_filter_le {α : Type} (q : α → Bool) (P : List α) : (P.filter q).length ≤ P.length := List.length_filter_le q P
theorem hx_win9 {post : SX → Prop} {g : Int32} {h : Nat → Int32} {N : Nat} (q : Nat → Bool) (hN : N ≤ 720) : ∀ (R P : List Nat) (a : Nat → Int32), (∀ v, v ∈ R → ∀ (a : Nat → Int32) (post' : Int32 → Prop), post' (hg_bI (!q v)) → wpX_isWonAfter post' (nI N, h, a) g (nI v)) → P.length + R.length = N → hg_H a (P.filter q) → (∀ i v, R[i]? = some v → a (P.length + i) = nI v) → (∀ a', hg_H a' ((P ++ R).filter q) → post (nI ((P ++ R).filter q).length, h, a')) → wX_listWinningMoves_9 post g (nI N) (R.length + 1) (nI (P.filter q).length) (nI P.length) h a
  | [], P, a, hA, hl, hH, hR, hp => by
    have hl' : P.length = N := hl
    have hle : nI N ≤ nI P.length := nI_le (by omega) (by omega)
    rw [List.append_nil] at hp
    exact br_t hle (hp a hH)
  | v :: R, P, a, hA, hl, hH, hR, hp => by
    have hl' : P.length + (R.length + 1) = N := hl
    have hle : ¬ nI N ≤ nI P.length := nI_ge (by omega) (by omega)
    have hf := hg_filter_le q P
    have hv : a P.length = nI v := hR 0 v rfl
    have hin : vp_in (nI P.length) 720 := vp_in_nI (by omega) (by decide)
    have hR' : ∀ (a' : Nat → Int32), (∀ i, P.length < i → a' i = a i) → ∀ i w, R[i]? = some w → a' ((P ++ [v]).length + i) = nI w := by
      intro a' ha' i w hw
      rw [List.length_append]
      show a' (P.length + 1 + i) = nI w
      rw [ha' _ (by omega)]
      have := hR (i + 1) w hw
      rw [show P.length + 1 + i = P.length + (i + 1) from by omega]
      exact this
    have hp' : ∀ a', hg_H a' ((P ++ [v] ++ R).filter q) → post (nI ((P ++ [v] ++ R).filter q).length, h, a') := by
      intro a' H'
      rw [List.append_assoc] at H' ⊢
      exact hp a' H'
    have hl2 : (P ++ [v]).length + R.length = N := by
      rw [List.length_append]
      show P.length + 1 + R.length = N
      omega
    refine br_f hle ⟨hin, ?_⟩
    rw [nI_clamp (n := P.length) (by omega), hv]
    refine hA v List.mem_cons_self a _ ?_
    cases e : q v
    · refine br_f (by decide) ?_
      refine nm_r (nI_1 _) ?_
      have ef : (P ++ [v]).filter q = P.filter q := by
        rw [List.filter_append, List.filter_cons_of_neg (by rw [e]; decide)]
        exact List.append_nil _
      have ih := hx_win9 (post := post) (g := g) (h := h) q hN R (P ++ [v]) a (fun w hw => hA w (List.mem_cons_of_mem _ hw)) hl2 (by rw [ef]; exact hH) (hR' a (fun _ _ => rfl)) hp'
      rw [ef, List.length_append] at ih
      exact ih
    · refine br_t rfl ⟨hin, vp_in_nI (by omega) (by decide), ?_⟩
      have ef : (P ++ [v]).filter q = P.filter q ++ [v] := by
        rw [List.filter_append, List.filter_cons_of_pos e]
        rfl
      refine nm_r (e' := upd a (P.filter q).length (nI v)) (by rw [nI_clamp (by omega)]) ?_
      refine nm_r (nI_1 _) (nm_r (nI_1 _) ?_)
      have ih := hx_win9 (post := post) (g := g) (h := h) q hN R (P ++ [v]) (upd a (P.filter q).length (nI v)) (fun w hw => hA w (List.mem_cons_of_mem _ hw)) hl2 (by rw [ef]; exact hg_H_app hH v) (hR' _ (fun i hi => hg_upd_ne (by omega))) hp'
      rw [ef, List.length_append, List.length_append] at ih
      exact ih
theorem hg_XN_bd {g x y z v : Nat} (hx : x ≤ 15) (hy : y ≤ 15) (hz : z ≤ 15) (h : v ∈ hg_XN g x y z) : v < 32768 ∧ (g = 6 → v ≤ hg_pl x y) := by
  by_cases h6 : g = 6
  · subst h6
    have h' : v ∈ hg_N6 (hg_pl x y) z := h
    have := hg_mem6.mp h'
    exact ⟨by omega, fun _ => by omega⟩
  · rw [hg_XN_6 h6] at h
    obtain ⟨q, hq, rfl⟩ := List.mem_map.mp h
    have := hg_bd hx hy hz hq
    refine ⟨?_, fun e => absurd e h6⟩
    unfold hg_num
    omega
theorem hg_XN_len {g x y z : Nat} (hx : x ≤ 15) (hy : y ≤ 15) (hz : z ≤ 15) : (hg_XN g x y z).length ≤ 720 := by
  by_cases h6 : g = 6
  · subst h6
    show (hg_N6 (hg_pl x y) z).length ≤ 720
    unfold hg_N6
    rw [List.length_map, List.length_range]
    omega
  · rw [hg_XN_6 h6, List.length_map]
    by_cases h2 : g = 2
    · subst h2
      have b1 : x * (y + z) ≤ 15 * 30 := Nat.mul_le_mul hx (by omega)
      have b2 : y * z ≤ 15 * 15 := Nat.mul_le_mul hy hz
      rw [hg_LX_2 hx hy hz, List.length_append, List.length_append, hg_L3_len, hg_flen (hg_G1_len x y z), hg_flen (hg_G2_len x y z)]
      omega
    · by_cases h3 : g = 3
      · subst h3
        show (hg_run x (fun k => (x - (k + 1), y, z)) ++ hg_run y (fun k => (x + (k + 1), y - (k + 1), z)) ++ hg_run z (fun k => (x, y + (k + 1), z - (k + 1)))).length ≤ 720
        rw [List.length_append, List.length_append, hg_run_len, hg_run_len, hg_run_len]
        omega
      · by_cases h4 : g = 4
        · subst h4
          show (hg_run x (fun k => (x - (k + 1), y, z)) ++ hg_run y (fun k => (x, y - (k + 1), z)) ++ hg_run (min x y) (fun k => (x - (k + 1), y - (k + 1), z))).length ≤ 720
          rw [List.length_append, List.length_append, hg_run_len, hg_run_len, hg_run_len]
          omega
        · by_cases h5 : g = 5
          · subst h5
            have d1 : x / y ≤ x := Nat.div_le_self x y
            have d2 : y / x ≤ y := Nat.div_le_self y x
            show (if x = 0 ∨ y = 0 then [] else hg_run (x / y) (fun k => (x - (k + 1) * y, y, z)) ++ hg_run (y / x) (fun k => (x, y - (k + 1) * x, z))).length ≤ 720
            by_cases h0 : x = 0 ∨ y = 0
            · rw [if_pos h0]
              exact Nat.zero_le _
            · rw [if_neg h0, List.length_append, hg_run_len, hg_run_len]
              omega
          · rw [hg_LX_1 h2 h3 h4 h5, hg_L3_len]
            omega
/-- the numbers of the winning moves, as X lists them -/
def hg_XF (g x y z : Nat) : List Nat := (hg_XN g x y z).filter (fun v => !hg_PA g x y v)
theorem hx_win {post : SX → Prop} {l : Int32} {h a : Nat → Int32} {g x y z : Nat} (H : hg_Hp h x y z) (hg : g < 8) (hx : x ≤ 15) (hy : y ≤ 15) (hz : z ≤ 15) (hp : ∀ a', hg_H a' (hg_XF g x y z) → post (nI (hg_XF g x y z).length, h, a')) : wpX_listWinningMoves post (l, h, a) (nI g) := by
  unfold wpX_listWinningMoves
  dsimp only
  refine hx_moves H hg hx hy hz (fun a1 H1 => ?_)
  refine ⟨(hg_XN g x y z).length + 1, ?_⟩
  refine hx_win9 (post := post) (fun v => !hg_PA g x y v) (hg_XN_len hx hy hz) (hg_XN g x y z) [] a1 ?_ (Nat.zero_add _) (hg_H_0 _) ?_ hp
  · intro v hv a2 post' h2
    have hb := hg_XN_bd hx hy hz hv
    rw [Bool.not_not] at h2
    exact hx_after H hg hx hy hz hb.1 hb.2 h2
  · intro i v hv
    rw [show ([] : List Nat).length + i = i from Nat.zero_add i]
    exact H1 i v hv
theorem hx_in15 {post : Int32 → Prop} {J : Int32 → Prop} {x1 : Int32} {h a : Nat → Int32} {F : List Nat} {k v : Nat} (hk : F[k]? = some v) (hH : hg_H a F) (hl : F.length ≤ 720) (hb : ∀ w, w ∈ F → w < 32768) (h1 : nI (F.countP (fun w => decide (w < v))) = x1 → post (nI v)) (h2 : ¬ nI (F.countP (fun w => decide (w < v))) = x1 → J (nI (k + 1))) : ∀ (R P : List Nat), P ++ R = F → wX_listedAbove_15 post J x1 (nI k) (nI F.length) h a (R.length + 1) (nI (P.countP (fun w => decide (w < v)))) (nI P.length)
  | [], P, e => by
    rw [List.append_nil] at e
    subst e
    have hkl : k < P.length := (List.getElem?_eq_some_iff.mp hk).1
    refine br_t (nI_le (Nat.le_refl _) (by omega)) ?_
    refine br_c (fun e => ⟨vp_in_nI (by omega) (by decide), ?_⟩) (fun e => nm_r (nI_1 _) (h2 e))
    rw [nI_clamp (by omega), hH k v hk]
    exact h1 e
  | w :: R, P, e => by
    have hkl : k < F.length := (List.getElem?_eq_some_iff.mp hk).1
    have hvF : v ∈ F := List.mem_of_getElem? hk
    have hlen : P.length + (R.length + 1) = F.length := by
      rw [← e, List.length_append]
      rfl
    have hw : F[P.length]? = some w := by
      rw [← e, List.getElem?_append_right (Nat.le_refl _), Nat.sub_self]
      rfl
    have hwF : w ∈ F := List.mem_of_getElem? hw
    have b1 := hb v hvF
    have b2 := hb w hwF
    have e' : P ++ [w] ++ R = F := by rw [List.append_assoc]; exact e
    have ih := hx_in15 (post := post) (J := J) (h := h) hk hH hl hb h1 h2 R (P ++ [w]) e'
    rw [List.countP_append, List.length_append] at ih
    refine br_f (nI_ge (by omega) (by omega)) ⟨vp_in_nI (by omega) (by decide), vp_in_nI (by omega) (by decide), ?_⟩
    rw [nI_clamp (by omega), nI_clamp (by omega), hH k v hk, hH P.length w hw]
    refine pk_le v w (fun hl => ?_) (fun hl => ?_)
    · refine nm_r (nI_1 _) ?_
      have e2 : [w].countP (fun w => decide (w < v)) = 0 := by
        rw [List.countP_cons_of_neg (by rw [decide_eq_true_eq]; omega)]
        rfl
      rw [e2] at ih
      exact ih
    · refine nm_r (nI_1 _) (nm_r (nI_1 _) ?_)
      have e2 : [w].countP (fun w => decide (w < v)) = 1 := by
        rw [List.countP_cons_of_pos (by rw [decide_eq_true_eq]; omega)]
        rfl
      rw [e2] at ih
      exact ih
theorem hx_ab2 {post : Int32 → Prop} {x1 : Int32} {h a : Nat → Int32} {F : List Nat} (hH : hg_H a F) (hl : F.length ≤ 720) (hb : ∀ w, w ∈ F → w < 32768) (h1 : ∀ (k v : Nat), F[k]? = some v → nI (F.countP (fun w => decide (w < v))) = x1 → post (nI v)) (h2 : (∀ (k v : Nat), F[k]? = some v → ¬ nI (F.countP (fun w => decide (w < v))) = x1) → post (-4)) : ∀ (d k : Nat), k + d = F.length → (∀ (k' v : Nat), k' < k → F[k']? = some v → ¬ nI (F.countP (fun w => decide (w < v))) = x1) → wX_listedAbove_2 post x1 (nI F.length) h a (d + 1) (nI k)
  | 0, k, hk, hn => by
    refine br_t (nI_le (by omega) (by omega)) (h2 (fun k' v hv => ?_))
    have hkl : k' < F.length := (List.getElem?_eq_some_iff.mp hv).1
    exact hn k' v (by omega) hv
  | d + 1, k, hk, hn => by
    refine br_f (nI_ge (by omega) (by omega)) ⟨F.length + 1, ?_⟩
    have hkl : k < F.length := by omega
    have hv : F[k]? = some F[k] := List.getElem?_eq_getElem hkl
    refine hx_in15 hv hH hl hb (h1 k _ hv) (fun hne => ?_) F [] rfl
    refine hx_ab2 hH hl hb h1 h2 d (k + 1) (by omega) (fun k' v hk' hv' => ?_)
    by_cases e : k' = k
    · subst e
      rw [hv] at hv'
      have := Option.some.inj hv'
      rw [← this]
      exact hne
    · exact hn k' v (by omega) hv'
/-- listedAbove, against the sorted list S -/
theorem hx_above {post : Int32 → Prop} {x1 : Int32} {h a : Nat → Int32} {F S : List Nat} (hH : hg_H a F) (hl : F.length ≤ 720) (hb : ∀ w, w ∈ F → w < 32768) (hS : List.Perm F S) (hs : S.Pairwise (· < ·)) (h1 : ∀ (j v : Nat), S[j]? = some v → x1 = nI j → post (nI v)) (h2 : (∀ j, j < S.length → ¬ x1 = nI j) → post (-4)) : wpX_listedAbove post (nI F.length, h, a) x1 := by
  refine ⟨F.length + 1, ?_⟩
  refine hx_ab2 hH hl hb (fun k v hv e => ?_) (fun hn => ?_) F.length 0 (Nat.zero_add _) (fun k' v hk' _ => absurd hk' (by omega))
  · obtain ⟨j, hj, e2⟩ := hg_pick hS hs (List.mem_of_getElem? hv)
    rw [e2] at e
    exact h1 j v hj e.symm
  · refine h2 (fun j hj e => ?_)
    have hv : S[j]? = some S[j] := List.getElem?_eq_getElem hj
    have hm : S[j] ∈ F := hS.mem_iff.mpr (List.mem_of_getElem? hv)
    obtain ⟨k, hk⟩ := List.getElem?_of_mem hm
    obtain ⟨j', hj', e2⟩ := hg_pick hS hs hm
    have e3 : S.countP (fun w => decide (w < S[j])) = j := hg_cnt S hs j _ hv
    refine hn k _ hk ?_
    rw [hS.countP_eq, e3, e]
end
section
theorem hg_o_len (c : Prop) [Decidable c] (p : hg_T) : (hg_o c p).length ≤ 1 := by
  unfold hg_o
  by_cases h : c
  · rw [if_pos h]; exact Nat.le_refl 1
  · rw [if_neg h]; exact Nat.zero_le 1
theorem hg_two_len (x y z k m : Nat) : (hg_two x y z k m).length ≤ 3 := by
  unfold hg_two
  rw [List.length_append, List.length_append]
  have h1 := hg_o_len (k + 1 ≤ x ∧ m + 1 ≤ y) (x - (k + 1), y - (m + 1), z)
  have h2 := hg_o_len (k + 1 ≤ x ∧ m + 1 ≤ z) (x - (k + 1), y, z - (m + 1))
  have h3 := hg_o_len (k + 1 ≤ y ∧ m + 1 ≤ z) (x, y - (k + 1), z - (m + 1))
  omega
theorem hg_flen_le {n b : Nat} {f : Nat → List hg_T} (h : ∀ k, (f k).length ≤ b) : ((List.range n).flatMap f).length ≤ n * b := by
  induction n with
  | zero => exact Nat.zero_le _
  | succ n ih =>
    have := h n
    rw [List.range_succ, List.flatMap_append, List.flatMap_singleton, List.length_append, Nat.succ_mul]
    omega
theorem hg_stp_len (g x y z k : Nat) : (hg_stp g x y z k).length ≤ 48 := by
  unfold hg_stp
  rw [List.length_append, List.length_append, List.length_append]
  have h1 := hg_o_len (k + 1 ≤ x) (x - (k + 1), y, z)
  have h2 := hg_o_len (k + 1 ≤ y) (x, y - (k + 1), z)
  have h3 := hg_o_len (k + 1 ≤ z) (x, y, z - (k + 1))
  have h4 : (if g = 2 then (List.range 15).flatMap (hg_two x y z k) else []).length ≤ 45 := by
    by_cases e : g = 2
    · rw [if_pos e]; exact hg_flen_le (n := 15) (b := 3) (hg_two_len x y z k)
    · rw [if_neg e]; exact Nat.zero_le _
  omega
theorem hy_loop (W : Nat → Int32 → Int32 → (Nat → Int32) → (Nat → Int32) → (Nat → Int32) → Prop) (E : Int32 → (Nat → Int32) → (Nat → Int32) → (Nat → Int32) → Prop) (N B : Nat) (c : Nat → Int32) (S : Nat → List hg_T) (hB : ∀ k, k < N → (S k).length ≤ B)
    (hx : ∀ n cn xs ys zs, E cn xs ys zs → W (n + 1) (c N) cn xs ys zs)
    (hs : ∀ n k L xs ys zs, k < N → L.length + B ≤ 800 → hg_H3 xs ys zs L → (∀ xs' ys' zs', hg_H3 xs' ys' zs' (L ++ S k) → W n (c (k + 1)) (nI (L ++ S k).length) xs' ys' zs') → W (n + 1) (c k) (nI L.length) xs ys zs) :
    ∀ (d k : Nat) (L : List hg_T) (xs ys zs : Nat → Int32), k + d = N → hg_H3 xs ys zs L → L.length + d * B ≤ 800 → (∀ xs' ys' zs', hg_H3 xs' ys' zs' (L ++ (List.range' k d).flatMap S) → E (nI (L ++ (List.range' k d).flatMap S).length) xs' ys' zs') → W (d + 1) (c k) (nI L.length) xs ys zs
  | 0, k, L, xs, ys, zs, hk, hH, hl, hE => by
    have e : k = N := by omega
    subst e
    have e2 : L ++ (List.range' k 0).flatMap S = L := List.append_nil L
    rw [e2] at hE
    exact hx 0 _ _ _ _ (hE xs ys zs hH)
  | d + 1, k, L, xs, ys, zs, hk, hH, hl, hE => by
    rw [Nat.succ_mul] at hl
    have hb := hB k (by omega)
    have e2 : L ++ (List.range' k (d + 1)).flatMap S = L ++ S k ++ (List.range' (k + 1) d).flatMap S := by
      rw [List.range'_succ, List.flatMap_cons, List.append_assoc]
    rw [e2] at hE
    refine hs (d + 1) k L xs ys zs (by omega) (by omega) hH (fun xs' ys' zs' H' => ?_)
    exact hy_loop W E N B c S hB hx hs d (k + 1) (L ++ S k) xs' ys' zs' (by omega) H' (by rw [List.length_append]; omega) hE
theorem hy_loop0 (W : Nat → Int32 → Int32 → (Nat → Int32) → (Nat → Int32) → (Nat → Int32) → Prop) (E : Int32 → (Nat → Int32) → (Nat → Int32) → (Nat → Int32) → Prop) (N B : Nat) (c : Nat → Int32) (S : Nat → List hg_T) (hB : ∀ k, k < N → (S k).length ≤ B)
    (hx : ∀ n cn xs ys zs, E cn xs ys zs → W (n + 1) (c N) cn xs ys zs)
    (hs : ∀ n k L xs ys zs, k < N → L.length + B ≤ 800 → hg_H3 xs ys zs L → (∀ xs' ys' zs', hg_H3 xs' ys' zs' (L ++ S k) → W n (c (k + 1)) (nI (L ++ S k).length) xs' ys' zs') → W (n + 1) (c k) (nI L.length) xs ys zs)
    (L : List hg_T) (xs ys zs : Nat → Int32) (hH : hg_H3 xs ys zs L) (hl : L.length + N * B ≤ 800) (hE : ∀ xs' ys' zs', hg_H3 xs' ys' zs' (L ++ (List.range N).flatMap S) → E (nI (L ++ (List.range N).flatMap S).length) xs' ys' zs') : ∃ n, W n (c 0) (nI L.length) xs ys zs := by
  rw [List.range_eq_range'] at hE
  exact ⟨N + 1, hy_loop W E N B c S hB hx hs N 0 L xs ys zs (by omega) hH hl hE⟩
theorem hy_loop1 (W : Nat → Int32 → Int32 → (Nat → Int32) → (Nat → Int32) → (Nat → Int32) → Prop) (E : Int32 → (Nat → Int32) → (Nat → Int32) → (Nat → Int32) → Prop) (N : Nat) (f : Nat → hg_T)
    (hx : ∀ n cn xs ys zs, E cn xs ys zs → W (n + 1) (nI (N + 1)) cn xs ys zs)
    (hs : ∀ n k L xs ys zs, k < N → L.length + 1 ≤ 800 → hg_H3 xs ys zs L → (∀ xs' ys' zs', hg_H3 xs' ys' zs' (L ++ [f k]) → W n (nI (k + 1 + 1)) (nI (L ++ [f k]).length) xs' ys' zs') → W (n + 1) (nI (k + 1)) (nI L.length) xs ys zs)
    (L : List hg_T) (xs ys zs : Nat → Int32) (hH : hg_H3 xs ys zs L) (hl : L.length + N ≤ 800) (hE : ∀ xs' ys' zs', hg_H3 xs' ys' zs' (L ++ hg_run N f) → E (nI (L ++ hg_run N f).length) xs' ys' zs') : ∃ n, W n 1 (nI L.length) xs ys zs := by
  have e : hg_run N f = (List.range N).flatMap (fun k => [f k]) := (hg_fs f _).symm
  rw [e] at hE
  exact hy_loop0 W E N 1 (fun k => nI (k + 1)) (fun k => [f k]) (fun _ _ => Nat.le_refl 1) hx hs L xs ys zs hH (by omega) hE
section
variable {fd : Int32} {h wn vl tk lm nb : Nat → Int32}
theorem hy_leave {post : SY → Prop} {cn A B C : Int32} {xs ys zs : Nat → Int32} (L : List hg_T) (q : hg_T) (hc : cn = nI L.length) (hH : hg_H3 xs ys zs L) (hl : L.length < 800) (eA : A = nI q.1) (eB : B = nI q.2.1) (eC : C = nI q.2.2) (hp : ∀ xs' ys' zs', hg_H3 xs' ys' zs' (L ++ [q]) → post (nI (L ++ [q]).length, fd, h, xs', ys', zs', wn, vl, tk, lm, nb)) : wpY_leave post (cn, fd, h, xs, ys, zs, wn, vl, tk, lm, nb) A B C := by
  subst hc eA eB eC
  have hin : vp_in (nI L.length) 800 := vp_in_nI hl (by decide)
  have ec : (nI L.length).toNatClampNeg = L.length := nI_clamp (by omega)
  refine ⟨hin, nm_e ⟨hin, nm_e ⟨hin, nm_e (nm_r (nI_1 _) ?_)⟩⟩⟩
  rw [ec]
  have := hp _ _ _ (hg_H3_app hH q)
  rw [List.length_append] at this
  exact this
theorem hy_pushes {post : SY → Prop} {xs ys zs : Nat → Int32} {x y z : Nat} (hx : x ≤ 45) (hy : y ≤ 30) (hz : z ≤ 15) (hp : ∀ xs' ys' zs', hg_H3 xs' ys' zs' (hg_LY 3 x y z) → post (nI (hg_LY 3 x y z).length, fd, h, xs', ys', zs', wn, vl, tk, lm, nb)) : wpY_listPushes post (0, fd, h, xs, ys, zs, wn, vl, tk, lm, nb) (nI x) (nI y) (nI z) := by
  have l3 := hy_loop1 (fun n k cn xs ys zs => wY_listPushes_3 post (nI x) (nI y) (nI z) n k cn fd h xs ys zs wn vl tk lm nb) (fun cn xs ys zs => ∃ n31 : Nat, wY_listPushes_31 post (nI x) (nI y) (nI z) n31 1 cn fd h xs ys zs wn vl tk lm nb) z (fun k => (x, y + (k + 1), z - (k + 1)))
    (fun n cn xs ys zs e => br_t (nI_lt (by omega) (by omega)) e)
    (fun n k L xs ys zs hk hl hH hn => br_f (nI_nlt (by omega) (by omega)) (hy_leave L (x, y + (k + 1), z - (k + 1)) rfl hH (by omega) rfl (nI_add _ _) (pk_sub (by omega)) (fun xs' ys' zs' H' => nm_r (nI_1 _) (hn xs' ys' zs' H'))))
    [] xs ys zs (hg_H3_0 _ _ _) (by show 0 + _ ≤ 800; omega)
  refine l3 (fun xs ys zs hH => ?_)
  rw [List.nil_append] at hH ⊢
  have l31 := hy_loop1 (fun n k cn xs ys zs => wY_listPushes_31 post (nI x) (nI y) (nI z) n k cn fd h xs ys zs wn vl tk lm nb) (fun cn xs ys zs => ∃ n59 : Nat, wY_listPushes_59 post (nI x) (nI y) (nI z) n59 1 cn fd h xs ys zs wn vl tk lm nb) y (fun k => (x + (k + 1), y - (k + 1), z))
    (fun n cn xs ys zs e => br_t (nI_lt (by omega) (by omega)) e)
    (fun n k L xs ys zs hk hl hH hn => br_f (nI_nlt (by omega) (by omega)) (hy_leave L (x + (k + 1), y - (k + 1), z) rfl hH (by omega) (nI_add _ _) (pk_sub (by omega)) rfl (fun xs' ys' zs' H' => nm_r (nI_1 _) (hn xs' ys' zs' H'))))
    (hg_run z (fun k => (x, y + (k + 1), z - (k + 1)))) xs ys zs hH (by rw [hg_run_len]; omega)
  refine l31 (fun xs ys zs hH => ?_)
  have l59 := hy_loop1 (fun n k cn xs ys zs => wY_listPushes_59 post (nI x) (nI y) (nI z) n k cn fd h xs ys zs wn vl tk lm nb) (fun cn xs ys zs => post (cn, fd, h, xs, ys, zs, wn, vl, tk, lm, nb)) x (fun k => (x - (k + 1), y, z))
    (fun n cn xs ys zs e => br_t (nI_lt (by omega) (by omega)) e)
    (fun n k L xs ys zs hk hl hH hn => br_f (nI_nlt (by omega) (by omega)) (hy_leave L (x - (k + 1), y, z) rfl hH (by omega) (pk_sub (by omega)) rfl rfl (fun xs' ys' zs' H' => nm_r (nI_1 _) (hn xs' ys' zs' H'))))
    (hg_run z (fun k => (x, y + (k + 1), z - (k + 1))) ++ hg_run y (fun k => (x + (k + 1), y - (k + 1), z))) xs ys zs hH (by rw [List.length_append, hg_run_len, hg_run_len]; omega)
  exact l59 hp
theorem hy_equal {post : SY → Prop} {xs ys zs : Nat → Int32} {x y z : Nat} (hx : x ≤ 45) (hy : y ≤ 30) (hz : z ≤ 15) (hp : ∀ xs' ys' zs', hg_H3 xs' ys' zs' (hg_LY 4 x y z) → post (nI (hg_LY 4 x y z).length, fd, h, xs', ys', zs', wn, vl, tk, lm, nb)) : wpY_listEqual post (0, fd, h, xs, ys, zs, wn, vl, tk, lm, nb) (nI x) (nI y) (nI z) := by
  have l3 := hy_loop1 (fun n k cn xs ys zs => wY_listEqual_3 post (nI x) (nI y) (nI z) n k cn fd h xs ys zs wn vl tk lm nb) (fun cn xs ys zs => ∃ n28 : Nat, wY_listEqual_28 post (nI x) (nI y) (nI z) n28 1 cn fd h xs ys zs wn vl tk lm nb) x (fun k => (x - (k + 1), y, z))
    (fun n cn xs ys zs e => br_t (nI_lt (by omega) (by omega)) e)
    (fun n k L xs ys zs hk hl hH hn => br_f (nI_nlt (by omega) (by omega)) (hy_leave L (x - (k + 1), y, z) rfl hH (by omega) (pk_sub (by omega)) rfl rfl (fun xs' ys' zs' H' => nm_r (nI_1 _) (hn xs' ys' zs' H'))))
    [] xs ys zs (hg_H3_0 _ _ _) (by show 0 + _ ≤ 800; omega)
  refine l3 (fun xs ys zs hH => ?_)
  rw [List.nil_append] at hH ⊢
  have l28 := hy_loop1 (fun n k cn xs ys zs => wY_listEqual_28 post (nI x) (nI y) (nI z) n k cn fd h xs ys zs wn vl tk lm nb) (fun cn xs ys zs => ∃ n53 : Nat, wY_listEqual_53 post (nI x) (nI y) (nI z) n53 1 cn fd h xs ys zs wn vl tk lm nb) y (fun k => (x, y - (k + 1), z))
    (fun n cn xs ys zs e => br_t (nI_lt (by omega) (by omega)) e)
    (fun n k L xs ys zs hk hl hH hn => br_f (nI_nlt (by omega) (by omega)) (hy_leave L (x, y - (k + 1), z) rfl hH (by omega) rfl (pk_sub (by omega)) rfl (fun xs' ys' zs' H' => nm_r (nI_1 _) (hn xs' ys' zs' H'))))
    (hg_run x (fun k => (x - (k + 1), y, z))) xs ys zs hH (by rw [hg_run_len]; omega)
  refine l28 (fun xs ys zs hH => ?_)
  have l53 := hy_loop1 (fun n k cn xs ys zs => wY_listEqual_53 post (nI x) (nI y) (nI z) n k cn fd h xs ys zs wn vl tk lm nb) (fun cn xs ys zs => post (cn, fd, h, xs, ys, zs, wn, vl, tk, lm, nb)) (min x y) (fun k => (x - (k + 1), y - (k + 1), z))
    (fun n cn xs ys zs e => pk_lt x (min x y + 1) (fun _ => e) (fun h1 => br_t (nI_lt (by omega) (by omega)) e))
    (fun n k L xs ys zs hk hl hH hn => br_f (nI_nlt (by omega) (by omega)) (br_f (nI_nlt (by omega) (by omega)) (hy_leave L (x - (k + 1), y - (k + 1), z) rfl hH (by omega) (pk_sub (by omega)) (pk_sub (by omega)) rfl (fun xs' ys' zs' H' => nm_r (nI_1 _) (hn xs' ys' zs' H')))))
    (hg_run x (fun k => (x - (k + 1), y, z)) ++ hg_run y (fun k => (x, y - (k + 1), z))) xs ys zs hH (by rw [List.length_append, hg_run_len, hg_run_len]; omega)
  exact l53 hp
theorem hy_144 {post : SY → Prop} {J17 J79 : Int32 → Int32 → Int32 → (Nat → Int32) → (Nat → Int32) → (Nat → Int32) → (Nat → Int32) → (Nat → Int32) → (Nat → Int32) → (Nat → Int32) → (Nat → Int32) → (Nat → Int32) → Prop} {x1 x5 : Int32} {x y z k m : Nat} (hx : x ≤ 45) (hy : y ≤ 30) (hz : z ≤ 15) (hk : k < 15) (hm : m < 15) (L : List hg_T) {xs ys zs : Nat → Int32} (hH : hg_H3 xs ys zs L) (hl : L.length < 800)
    (hC : ∀ xs' ys' zs', hg_H3 xs' ys' zs' (L ++ hg_o (k + 1 ≤ y ∧ m + 1 ≤ z) (x, y - (k + 1), z - (m + 1))) → J79 (nI (m + 1 + 1)) (nI (L ++ hg_o (k + 1 ≤ y ∧ m + 1 ≤ z) (x, y - (k + 1), z - (m + 1))).length) fd h xs' ys' zs' wn vl tk lm nb) :
    wY_listSingles_144 post J17 J79 x1 (nI x) (nI y) (nI z) x5 (nI (k + 1)) (nI (m + 1)) (nI L.length) fd h xs ys zs wn vl tk lm nb := by
  refine pk_lt y (k + 1) (fun h1 => nm_r (nI_1 _) ?_) (fun h1 => pk_lt z (m + 1) (fun h2 => nm_r (nI_1 _) ?_) (fun h2 => ?_))
  · have e : hg_o (k + 1 ≤ y ∧ m + 1 ≤ z) (x, y - (k + 1), z - (m + 1)) = [] := if_neg (by omega)
    rw [e, List.append_nil] at hC
    exact hC xs ys zs hH
  · have e : hg_o (k + 1 ≤ y ∧ m + 1 ≤ z) (x, y - (k + 1), z - (m + 1)) = [] := if_neg (by omega)
    rw [e, List.append_nil] at hC
    exact hC xs ys zs hH
  · have e : hg_o (k + 1 ≤ y ∧ m + 1 ≤ z) (x, y - (k + 1), z - (m + 1)) = [(x, y - (k + 1), z - (m + 1))] := if_pos ⟨h1, h2⟩
    rw [e] at hC
    exact hy_leave L (x, y - (k + 1), z - (m + 1)) rfl hH hl rfl (pk_sub h1) (pk_sub h2) (fun xs' ys' zs' H' => nm_r (nI_1 _) (hC xs' ys' zs' H'))
theorem hy_117 {post : SY → Prop} {J17 J79 : Int32 → Int32 → Int32 → (Nat → Int32) → (Nat → Int32) → (Nat → Int32) → (Nat → Int32) → (Nat → Int32) → (Nat → Int32) → (Nat → Int32) → (Nat → Int32) → (Nat → Int32) → Prop} {x1 x5 : Int32} {x y z k m : Nat} (hx : x ≤ 45) (hy : y ≤ 30) (hz : z ≤ 15) (hk : k < 15) (hm : m < 15) (L : List hg_T) {xs ys zs : Nat → Int32} (hH : hg_H3 xs ys zs L) (hl : L.length + 1 < 800)
    (hC : ∀ xs' ys' zs', hg_H3 xs' ys' zs' (L ++ hg_o (k + 1 ≤ x ∧ m + 1 ≤ z) (x - (k + 1), y, z - (m + 1)) ++ hg_o (k + 1 ≤ y ∧ m + 1 ≤ z) (x, y - (k + 1), z - (m + 1))) → J79 (nI (m + 1 + 1)) (nI (L ++ hg_o (k + 1 ≤ x ∧ m + 1 ≤ z) (x - (k + 1), y, z - (m + 1)) ++ hg_o (k + 1 ≤ y ∧ m + 1 ≤ z) (x, y - (k + 1), z - (m + 1))).length) fd h xs' ys' zs' wn vl tk lm nb) :
    wY_listSingles_117 post J17 J79 x1 (nI x) (nI y) (nI z) x5 (nI (k + 1)) (nI (m + 1)) (nI L.length) fd h xs ys zs wn vl tk lm nb := by
  refine pk_lt x (k + 1) (fun h1 => ?_) (fun h1 => pk_lt z (m + 1) (fun h2 => ?_) (fun h2 => ?_))
  · have e : hg_o (k + 1 ≤ x ∧ m + 1 ≤ z) (x - (k + 1), y, z - (m + 1)) = [] := if_neg (by omega)
    rw [e, List.append_nil] at hC
    exact hy_144 hx hy hz hk hm L hH (by omega) hC
  · have e : hg_o (k + 1 ≤ x ∧ m + 1 ≤ z) (x - (k + 1), y, z - (m + 1)) = [] := if_neg (by omega)
    rw [e, List.append_nil] at hC
    exact hy_144 hx hy hz hk hm L hH (by omega) hC
  · have e : hg_o (k + 1 ≤ x ∧ m + 1 ≤ z) (x - (k + 1), y, z - (m + 1)) = [(x - (k + 1), y, z - (m + 1))] := if_pos ⟨h1, h2⟩
    rw [e] at hC
    exact hy_leave L (x - (k + 1), y, z - (m + 1)) rfl hH (by omega) (pk_sub h1) rfl (pk_sub h2) (fun xs' ys' zs' H' => hy_144 hx hy hz hk hm (L ++ [(x - (k + 1), y, z - (m + 1))]) H' (by rw [List.length_append]; exact hl) hC)
theorem hy_79 {post : SY → Prop} {J17 : Int32 → Int32 → Int32 → (Nat → Int32) → (Nat → Int32) → (Nat → Int32) → (Nat → Int32) → (Nat → Int32) → (Nat → Int32) → (Nat → Int32) → (Nat → Int32) → (Nat → Int32) → Prop} {x5 : Int32} {g x y z k : Nat} (hg : g < 8) (hx : x ≤ 45) (hy : y ≤ 30) (hz : z ≤ 15) (hk : k < 15) (L : List hg_T) {xs ys zs : Nat → Int32} (hH : hg_H3 xs ys zs L) (hl : L.length + 45 ≤ 800)
    (hC : ∀ xs' ys' zs', hg_H3 xs' ys' zs' (L ++ (if g = 2 then (List.range 15).flatMap (hg_two x y z k) else [])) → J17 (nI (k + 1 + 1)) (nI (L ++ (if g = 2 then (List.range 15).flatMap (hg_two x y z k) else [])).length) fd h xs' ys' zs' wn vl tk lm nb) :
    ∃ n79 : Nat, wY_listSingles_79 post J17 (nI g) (nI x) (nI y) (nI z) x5 (nI (k + 1)) n79 1 (nI L.length) fd h xs ys zs wn vl tk lm nb := by
  by_cases h2 : g = 2
  · subst h2
    rw [if_pos rfl] at hC
    refine hy_loop0 (fun n m cn xs ys zs => wY_listSingles_79 post J17 (nI 2) (nI x) (nI y) (nI z) x5 (nI (k + 1)) n m cn fd h xs ys zs wn vl tk lm nb) (fun cn xs ys zs => J17 (nI (k + 1 + 1)) cn fd h xs ys zs wn vl tk lm nb) 15 3 (fun m => nI (m + 1)) (hg_two x y z k) (fun m _ => hg_two_len x y z k m) (fun n cn xs ys zs e => br_t (by decide) (nm_r (nI_1 _) e)) ?_ L xs ys zs hH (by omega) hC
    intro n m L xs ys zs hm hl hH hn
    have h15 : ¬ (15 : Int32) < nI (m + 1) := nI_nlt (a := 15) (by omega) (by omega)
    have eT : L ++ hg_two x y z k m = L ++ hg_o (k + 1 ≤ x ∧ m + 1 ≤ y) (x - (k + 1), y - (m + 1), z) ++ hg_o (k + 1 ≤ x ∧ m + 1 ≤ z) (x - (k + 1), y, z - (m + 1)) ++ hg_o (k + 1 ≤ y ∧ m + 1 ≤ z) (x, y - (k + 1), z - (m + 1)) := by
      unfold hg_two
      rw [List.append_assoc, List.append_assoc, List.append_assoc]
    rw [eT] at hn
    refine br_f h15 (br_t rfl (pk_lt x (k + 1) (fun h1 => ?_) (fun h1 => pk_lt y (m + 1) (fun h2 => ?_) (fun h2 => ?_))))
    · have e : hg_o (k + 1 ≤ x ∧ m + 1 ≤ y) (x - (k + 1), y - (m + 1), z) = [] := if_neg (by omega)
      rw [e, List.append_nil] at hn
      exact hy_117 hx hy hz hk hm L hH (by omega) hn
    · have e : hg_o (k + 1 ≤ x ∧ m + 1 ≤ y) (x - (k + 1), y - (m + 1), z) = [] := if_neg (by omega)
      rw [e, List.append_nil] at hn
      exact hy_117 hx hy hz hk hm L hH (by omega) hn
    · have e : hg_o (k + 1 ≤ x ∧ m + 1 ≤ y) (x - (k + 1), y - (m + 1), z) = [(x - (k + 1), y - (m + 1), z)] := if_pos ⟨h1, h2⟩
      rw [e] at hn
      exact hy_leave L (x - (k + 1), y - (m + 1), z) rfl hH (by omega) (pk_sub h1) (pk_sub h2) rfl (fun xs' ys' zs' H' => hy_117 hx hy hz hk hm (L ++ [(x - (k + 1), y - (m + 1), z)]) H' (by rw [List.length_append]; show L.length + 1 + 1 < 800; omega) hn)
  · rw [if_neg h2, List.append_nil] at hC
    have hne : ¬ nI g = 2 := fun e => h2 ((nI_eq (b := 2) (by omega) (by omega)).mp e)
    exact ⟨1, br_f (by decide) (br_f hne (nm_r (nI_1 _) (hC xs ys zs hH)))⟩
theorem hy_58 {post : SY → Prop} {J17 : Int32 → Int32 → Int32 → (Nat → Int32) → (Nat → Int32) → (Nat → Int32) → (Nat → Int32) → (Nat → Int32) → (Nat → Int32) → (Nat → Int32) → (Nat → Int32) → (Nat → Int32) → Prop} {x5 : Int32} {g x y z k : Nat} (hg : g < 8) (hx : x ≤ 45) (hy : y ≤ 30) (hz : z ≤ 15) (hk : k < 15) (L : List hg_T) {xs ys zs : Nat → Int32} (hH : hg_H3 xs ys zs L) (hl : L.length + 46 ≤ 800)
    (hC : ∀ xs' ys' zs', hg_H3 xs' ys' zs' (L ++ hg_o (k + 1 ≤ z) (x, y, z - (k + 1)) ++ (if g = 2 then (List.range 15).flatMap (hg_two x y z k) else [])) → J17 (nI (k + 1 + 1)) (nI (L ++ hg_o (k + 1 ≤ z) (x, y, z - (k + 1)) ++ (if g = 2 then (List.range 15).flatMap (hg_two x y z k) else [])).length) fd h xs' ys' zs' wn vl tk lm nb) :
    wY_listSingles_58 post J17 (nI g) (nI x) (nI y) (nI z) x5 (nI (k + 1)) (nI L.length) fd h xs ys zs wn vl tk lm nb := by
  refine pk_lt z (k + 1) (fun h1 => ?_) (fun h1 => ?_)
  · have e : hg_o (k + 1 ≤ z) (x, y, z - (k + 1)) = [] := if_neg (by omega)
    rw [e, List.append_nil] at hC
    exact hy_79 hg hx hy hz hk L hH (by omega) hC
  · have e : hg_o (k + 1 ≤ z) (x, y, z - (k + 1)) = [(x, y, z - (k + 1))] := if_pos h1
    rw [e] at hC
    exact hy_leave L (x, y, z - (k + 1)) rfl hH (by omega) rfl rfl (pk_sub h1) (fun xs' ys' zs' H' => hy_79 hg hx hy hz hk (L ++ [(x, y, z - (k + 1))]) H' (by rw [List.length_append]; show L.length + 1 + 45 ≤ 800; omega) hC)
theorem hy_41 {post : SY → Prop} {J17 : Int32 → Int32 → Int32 → (Nat → Int32) → (Nat → Int32) → (Nat → Int32) → (Nat → Int32) → (Nat → Int32) → (Nat → Int32) → (Nat → Int32) → (Nat → Int32) → (Nat → Int32) → Prop} {x5 : Int32} {g x y z k : Nat} (hg : g < 8) (hx : x ≤ 45) (hy : y ≤ 30) (hz : z ≤ 15) (hk : k < 15) (L : List hg_T) {xs ys zs : Nat → Int32} (hH : hg_H3 xs ys zs L) (hl : L.length + 47 ≤ 800)
    (hC : ∀ xs' ys' zs', hg_H3 xs' ys' zs' (L ++ hg_o (k + 1 ≤ y) (x, y - (k + 1), z) ++ hg_o (k + 1 ≤ z) (x, y, z - (k + 1)) ++ (if g = 2 then (List.range 15).flatMap (hg_two x y z k) else [])) → J17 (nI (k + 1 + 1)) (nI (L ++ hg_o (k + 1 ≤ y) (x, y - (k + 1), z) ++ hg_o (k + 1 ≤ z) (x, y, z - (k + 1)) ++ (if g = 2 then (List.range 15).flatMap (hg_two x y z k) else [])).length) fd h xs' ys' zs' wn vl tk lm nb) :
    wY_listSingles_41 post J17 (nI g) (nI x) (nI y) (nI z) x5 (nI (k + 1)) (nI L.length) fd h xs ys zs wn vl tk lm nb := by
  refine pk_lt y (k + 1) (fun h1 => ?_) (fun h1 => ?_)
  · have e : hg_o (k + 1 ≤ y) (x, y - (k + 1), z) = [] := if_neg (by omega)
    rw [e, List.append_nil] at hC
    exact hy_58 hg hx hy hz hk L hH (by omega) hC
  · have e : hg_o (k + 1 ≤ y) (x, y - (k + 1), z) = [(x, y - (k + 1), z)] := if_pos h1
    rw [e] at hC
    exact hy_leave L (x, y - (k + 1), z) rfl hH (by omega) rfl (pk_sub h1) rfl (fun xs' ys' zs' H' => hy_58 hg hx hy hz hk (L ++ [(x, y - (k + 1), z)]) H' (by rw [List.length_append]; show L.length + 1 + 46 ≤ 800; omega) hC)
theorem hy_17 {post : SY → Prop} {xs ys zs : Nat → Int32} {g x y z : Nat} (N : Nat) (hN : N ≤ 15) (hg : g < 8) (hx : x ≤ 45) (hy : y ≤ 30) (hz : z ≤ 15) (hp : ∀ xs' ys' zs', hg_H3 xs' ys' zs' ((List.range N).flatMap (hg_stp g x y z)) → post (nI ((List.range N).flatMap (hg_stp g x y z)).length, fd, h, xs', ys', zs', wn, vl, tk, lm, nb)) : ∃ n17 : Nat, wY_listSingles_17 post (nI g) (nI x) (nI y) (nI z) (nI N) n17 1 0 fd h xs ys zs wn vl tk lm nb := by
  have l17 := hy_loop0 (fun n k cn xs ys zs => wY_listSingles_17 post (nI g) (nI x) (nI y) (nI z) (nI N) n k cn fd h xs ys zs wn vl tk lm nb) (fun cn xs ys zs => post (cn, fd, h, xs, ys, zs, wn, vl, tk, lm, nb)) N 48 (fun k => nI (k + 1)) (hg_stp g x y z) (fun k _ => hg_stp_len g x y z k) (fun n cn xs ys zs e => br_t (nI_lt (by omega) (by omega)) e) ?_ [] xs ys zs (hg_H3_0 _ _ _) (by show 0 + _ ≤ 800; omega)
  · exact l17 (by simpa only [List.nil_append] using hp)
  · intro n k L xs ys zs hk hl hH hn
    have eS : L ++ hg_stp g x y z k = L ++ hg_o (k + 1 ≤ x) (x - (k + 1), y, z) ++ hg_o (k + 1 ≤ y) (x, y - (k + 1), z) ++ hg_o (k + 1 ≤ z) (x, y, z - (k + 1)) ++ (if g = 2 then (List.range 15).flatMap (hg_two x y z k) else []) := by
      unfold hg_stp
      simp only [List.append_assoc]
    rw [eS] at hn
    refine br_f (nI_nlt (by omega) (by omega)) (pk_lt x (k + 1) (fun h1 => ?_) (fun h1 => ?_))
    · have e : hg_o (k + 1 ≤ x) (x - (k + 1), y, z) = [] := if_neg (by omega)
      rw [e, List.append_nil] at hn
      exact hy_41 hg hx hy hz (by omega) L hH (by omega) hn
    · have e : hg_o (k + 1 ≤ x) (x - (k + 1), y, z) = [(x - (k + 1), y, z)] := if_pos h1
      rw [e] at hn
      exact hy_leave L (x - (k + 1), y, z) rfl hH (by omega) (pk_sub h1) rfl rfl (fun xs' ys' zs' H' => hy_41 hg hx hy hz (by omega) (L ++ [(x - (k + 1), y, z)]) H' (by rw [List.length_append]; show L.length + 1 + 47 ≤ 800; omega) hn)
theorem hy_singles {post : SY → Prop} {xs ys zs : Nat → Int32} {g x y z : Nat} (hg : g < 8) (h3 : g ≠ 3) (h4 : g ≠ 4) (h5 : g ≠ 5) (hx : x ≤ 45) (hy : y ≤ 30) (hz : z ≤ 15) (hp : ∀ xs' ys' zs', hg_H3 xs' ys' zs' (hg_LY g x y z) → post (nI (hg_LY g x y z).length, fd, h, xs', ys', zs', wn, vl, tk, lm, nb)) : wpY_listSingles post (0, fd, h, xs, ys, zs, wn, vl, tk, lm, nb) (nI g) (nI x) (nI y) (nI z) := by
  have e : hg_LY g x y z = (List.range (if g = 7 then 3 else 15)).flatMap (hg_stp g x y z) := by
    unfold hg_LY
    rw [if_neg h3, if_neg h4, if_neg h5]
  rw [e] at hp
  refine pk_eq g 7 (fun h7 => ?_) (fun h7 => ?_)
  · rw [if_pos h7] at hp
    exact hy_17 3 (by decide) hg hx hy hz hp
  · rw [if_neg h7] at hp
    exact hy_17 15 (by decide) hg hx hy hz hp
end
end
section
section
variable {fd : Int32} {h wn vl tk lm nb : Nat → Int32}
theorem hg_mulI (a b : Nat) : nI (a * b) + nI b = nI ((a + 1) * b) := by rw [nI_add, Nat.succ_mul]
theorem hg_div_hi {x y : Nat} (hy : 0 < y) : x < (x / y + 1) * y := by
  have := Nat.div_add_mod x y
  have h2 := Nat.mod_lt x hy
  rw [Nat.succ_mul, Nat.mul_comm (x / y) y]
  omega
theorem hy_mult_gt {post : SY → Prop} {xs ys zs : Nat → Int32} {x y z : Nat} (hx : x ≤ 45) (h0 : 0 < y) (hyx : y < x) (hp : ∀ xs' ys' zs', hg_H3 xs' ys' zs' (hg_run (x / y) (fun k => (x - (k + 1) * y, y, z))) → post (nI (hg_run (x / y) (fun k => (x - (k + 1) * y, y, z))).length, fd, h, xs', ys', zs', wn, vl, tk, lm, nb)) : ∃ n37 : Nat, wY_listMultiples_37 post (nI x) (nI y) (nI z) (nI y) (nI x) n37 (nI y) 0 fd h xs ys zs wn vl tk lm nb := by
  have hd : x / y ≤ x := Nat.div_le_self x y
  have hi := hg_div_hi (x := x) h0
  have hm := hg_kdiv (k := x / y - 1) (x := x) (y := y)
  have e : hg_run (x / y) (fun k => (x - (k + 1) * y, y, z)) = (List.range (x / y)).flatMap (fun k => [(x - (k + 1) * y, y, z)]) := (hg_fs (fun k => (x - (k + 1) * y, y, z)) _).symm
  have hb : (x / y + 1) * y ≤ 46 * 45 := Nat.mul_le_mul (by omega) (by omega)
  have l37 := hy_loop0 (fun n k cn xs ys zs => wY_listMultiples_37 post (nI x) (nI y) (nI z) (nI y) (nI x) n k cn fd h xs ys zs wn vl tk lm nb) (fun cn xs ys zs => post (cn, fd, h, xs, ys, zs, wn, vl, tk, lm, nb)) (x / y) 1 (fun k => nI ((k + 1) * y)) (fun k => [(x - (k + 1) * y, y, z)]) (fun _ _ => Nat.le_refl 1)
    (fun n cn xs ys zs e => br_t (nI_lt hi (by omega)) e)
    (fun n k L xs ys zs hk hl hH hn => by
      have hk1 := hg_kdiv hk
      refine br_f (nI_nlt hk1 (by omega)) (br_f (nI_nlt (by omega) (by omega)) (hy_leave L (x - (k + 1) * y, y, z) rfl hH (by omega) (pk_sub hk1) rfl rfl (fun xs' ys' zs' H' => ?_)))
      exact br_t (nI_lt hyx (by omega)) (nm_r (hg_mulI (k + 1) y) (hn xs' ys' zs' H')))
    [] xs ys zs (hg_H3_0 _ _ _) (by show 0 + _ ≤ 800; omega)
  have hq := l37 (by
    intro xs' ys' zs' H'
    rw [List.nil_append, ← e] at H' ⊢
    exact hp xs' ys' zs' H')
  rw [show (0 + 1) * y = y from by omega] at hq
  exact hq
theorem hy_mult_lt {post : SY → Prop} {xs ys zs : Nat → Int32} {x y z : Nat} (hy : y ≤ 45) (h0 : 0 < x) (hxy : x < y) (hp : ∀ xs' ys' zs', hg_H3 xs' ys' zs' (hg_run (y / x) (fun k => (x, y - (k + 1) * x, z))) → post (nI (hg_run (y / x) (fun k => (x, y - (k + 1) * x, z))).length, fd, h, xs', ys', zs', wn, vl, tk, lm, nb)) : ∃ n37 : Nat, wY_listMultiples_37 post (nI x) (nI y) (nI z) (nI x) (nI y) n37 (nI x) 0 fd h xs ys zs wn vl tk lm nb := by
  have hd : y / x ≤ y := Nat.div_le_self y x
  have hi := hg_div_hi (x := y) h0
  have e : hg_run (y / x) (fun k => (x, y - (k + 1) * x, z)) = (List.range (y / x)).flatMap (fun k => [(x, y - (k + 1) * x, z)]) := (hg_fs (fun k => (x, y - (k + 1) * x, z)) _).symm
  have hb : (y / x + 1) * x ≤ 46 * 45 := Nat.mul_le_mul (by omega) (by omega)
  have l37 := hy_loop0 (fun n k cn xs ys zs => wY_listMultiples_37 post (nI x) (nI y) (nI z) (nI x) (nI y) n k cn fd h xs ys zs wn vl tk lm nb) (fun cn xs ys zs => post (cn, fd, h, xs, ys, zs, wn, vl, tk, lm, nb)) (y / x) 1 (fun k => nI ((k + 1) * x)) (fun k => [(x, y - (k + 1) * x, z)]) (fun _ _ => Nat.le_refl 1)
    (fun n cn xs ys zs e => br_t (nI_lt hi (by omega)) e)
    (fun n k L xs ys zs hk hl hH hn => by
      have hk1 := hg_kdiv hk
      refine br_f (nI_nlt hk1 (by omega)) (br_t (nI_lt hxy (by omega)) (br_f (nI_nlt (by omega) (by omega)) (hy_leave L (x, y - (k + 1) * x, z) rfl hH (by omega) rfl (pk_sub hk1) rfl (fun xs' ys' zs' H' => ?_))))
      exact nm_r (hg_mulI (k + 1) x) (hn xs' ys' zs' H'))
    [] xs ys zs (hg_H3_0 _ _ _) (by show 0 + _ ≤ 800; omega)
  have hq := l37 (by
    intro xs' ys' zs' H'
    rw [List.nil_append, ← e] at H' ⊢
    exact hp xs' ys' zs' H')
  rw [show (0 + 1) * x = x from by omega] at hq
  exact hq
theorem hy_mult_eq {post : SY → Prop} {xs ys zs : Nat → Int32} {x z : Nat} (hx : x ≤ 45) (h0 : 0 < x) (hp : ∀ xs' ys' zs', hg_H3 xs' ys' zs' [(x - x, x, z), (x, x - x, z)] → post (nI 2, fd, h, xs', ys', zs', wn, vl, tk, lm, nb)) : ∃ n37 : Nat, wY_listMultiples_37 post (nI x) (nI x) (nI z) (nI x) (nI x) n37 (nI x) 0 fd h xs ys zs wn vl tk lm nb := by
  refine ⟨2, br_f (nI_nlt (Nat.le_refl x) (by omega)) (br_f (nI_nlt (Nat.le_refl x) (by omega)) ?_)⟩
  refine hy_leave [] (x - x, x, z) rfl (hg_H3_0 _ _ _) (by decide) (pk_sub (Nat.le_refl x)) rfl rfl (fun xs1 ys1 zs1 H1 => ?_)
  refine br_f (nI_nlt (Nat.le_refl x) (by omega)) ?_
  refine hy_leave [(x - x, x, z)] (x, x - x, z) rfl H1 (by decide : 1 < 800) rfl (pk_sub (Nat.le_refl x)) rfl (fun xs2 ys2 zs2 H2 => ?_)
  refine nm_r (nI_add x x) ?_
  exact br_t (nI_lt (by omega) (by omega)) (hp xs2 ys2 zs2 H2)
theorem hy_mult {post : SY → Prop} {xs ys zs : Nat → Int32} {x y z : Nat} (hx : x ≤ 45) (hy : y ≤ 30) (hz : z ≤ 15) (hp : ∀ xs' ys' zs', hg_H3 xs' ys' zs' (hg_LX 5 x y z) → post (nI (hg_LX 5 x y z).length, fd, h, xs', ys', zs', wn, vl, tk, lm, nb)) : wpY_listMultiples post (0, fd, h, xs, ys, zs, wn, vl, tk, lm, nb) (nI x) (nI y) (nI z) := by
  have eL : hg_LX 5 x y z = if x = 0 ∨ y = 0 then [] else hg_run (x / y) (fun k => (x - (k + 1) * y, y, z)) ++ hg_run (y / x) (fun k => (x, y - (k + 1) * x, z)) := rfl
  refine pk_eq x 0 (fun e => ?_) (fun e => ?_)
  · rw [eL, if_pos (Or.inl e)] at hp
    exact hp xs ys zs (hg_H3_0 _ _ _)
  · refine pk_eq y 0 (fun e2 => ?_) (fun e2 => ?_)
    · rw [eL, if_pos (Or.inr e2)] at hp
      exact hp xs ys zs (hg_H3_0 _ _ _)
    · rw [eL, if_neg (by omega)] at hp
      refine pk_le y x (fun h1 => ?_) (fun h1 => ?_)
      · refine br_t (nI_le h1 (by omega)) ?_
        by_cases h2 : y = x
        · subst h2
          have ed : y / y = 1 := Nat.div_self (by omega)
          rw [ed] at hp
          have hp2 : ∀ xs' ys' zs', hg_H3 xs' ys' zs' [(y - (0 + 1) * y, y, z), (y, y - (0 + 1) * y, z)] → post (nI 2, fd, h, xs', ys', zs', wn, vl, tk, lm, nb) := hp
          rw [show (0 + 1) * y = y from by omega] at hp2
          exact hy_mult_eq hx (by omega) hp2
        · have ed : y / x = 0 := Nat.div_eq_of_lt (by omega)
          rw [ed, hg_run_0, List.append_nil] at hp
          exact hy_mult_gt hx (by omega) (by omega) hp
      · refine br_f (nI_ge h1 (by omega)) ?_
        have ed : x / y = 0 := Nat.div_eq_of_lt h1
        rw [ed, hg_run_0, List.nil_append] at hp
        exact hy_mult_lt (by omega) (by omega) h1 hp
theorem hy_list {post : SY → Prop} {cn : Int32} {xs ys zs : Nat → Int32} {g x y z : Nat} (hg : g < 8) (hx : x ≤ 45) (hy : y ≤ 30) (hz : z ≤ 15) (hp : ∀ xs' ys' zs', hg_H3 xs' ys' zs' (hg_LY g x y z) → post (nI (hg_LY g x y z).length, fd, h, xs', ys', zs', wn, vl, tk, lm, nb)) : wpY_list post (cn, fd, h, xs, ys, zs, wn, vl, tk, lm, nb) (nI g) (nI x) (nI y) (nI z) := by
  refine pk_eq g 3 (fun e => ?_) (fun e3 => pk_eq g 4 (fun e => ?_) (fun e4 => pk_eq g 5 (fun e => ?_) (fun e5 => ?_)))
  · subst e
    exact hy_pushes hx hy hz hp
  · subst e
    exact hy_equal hx hy hz hp
  · subst e
    exact hy_mult hx hy hz hp
  · exact hy_singles hg e3 e4 e5 hx hy hz hp
theorem hg_keyI (x y z : Nat) : (nI z * 31 + nI y) * 46 + nI x = nI (hg_key x y z) := by
  show (nI z * nI 31 + nI y) * nI 46 + nI x = _
  rw [pk_mul, nI_add, pk_mul, nI_add]
  rfl
theorem hy_key {post : Int32 → Prop} {cn : Int32} {xs ys zs : Nat → Int32} {A B C : Int32} {x y z : Nat} (eA : A = nI x) (eB : B = nI y) (eC : C = nI z) (hp : post (nI (hg_key x y z))) : wpY_key post (cn, fd, h, xs, ys, zs, wn, vl, tk, lm, nb) A B C := by
  subst eA eB eC
  show post ((nI z * 31 + nI y) * 46 + nI x)
  rw [hg_keyI]
  exact hp
end
end
section
theorem hg_vnar (b : Bool) : vp_nar .boolean (hg_bI b) = hg_bI b := by cases b <;> rfl
section
variable {fd : Int32} {h wn vl tk lm nb : Nat → Int32}
theorem hy_lost2 {post : Int32 → Prop} {cn A B C : Int32} {xs ys zs : Nat → Int32} {x y z : Nat} (ok : Prop) (a b c : Nat) (hW : ∀ q : hg_T, q ∈ hg_LX 2 x y z → hg_Bd q.1 q.2.1 q.2.2 ∧ wn (hg_key q.1 q.2.1 q.2.2) = hg_bI (hg_Wq 2 q)) (hok : ok → A = nI a ∧ B = nI b ∧ C = nI c ∧ ((a, b, c) : hg_T) ∈ hg_LX 2 x y z) (hno : ¬ ok → A < 0 ∨ B < 0 ∨ C < 0) (h1 : ok → a = b → b = c → post 1) (h0 : ¬ (ok ∧ a = b ∧ b = c) → post 0) : wpY_isLost post (cn, fd, h, xs, ys, zs, wn, vl, tk, lm, nb) A B C := by
  by_cases o : ok
  · obtain ⟨eA, eB, eC, hm⟩ := hok o
    subst eA eB eC
    obtain ⟨hb, hw⟩ := hW _ hm
    dsimp only at hb hw
    have hk := hg_key_lt hb
    have hb' := hb
    unfold hg_Bd at hb'
    refine br_f (nI_pos (by omega)) (br_f (nI_pos (by omega)) (br_f (nI_pos (by omega)) (hy_key rfl rfl rfl ⟨vp_in_nI hk (by decide), ?_⟩)))
    rw [nI_clamp (by omega), hw]
    cases e : hg_Wq 2 (a, b, c)
    · have e' := hg_w2F.mp e
      exact br_t rfl (h1 o e'.1 e'.2)
    · have e' := hg_w2T.mp e
      exact br_f (by decide) (h0 (fun z => e' ⟨z.2.1, z.2.2⟩))
  · have hp := h0 (fun z => o z.1)
    refine br_c (fun _ => hp) (fun n1 => br_c (fun _ => hp) (fun n2 => br_c (fun _ => hp) (fun n3 => ?_)))
    rcases hno o with n | n | n
    · exact absurd n n1
    · exact absurd n n2
    · exact absurd n n3
def hg_Tgt (x y z K M : Nat) : Prop := 1 ≤ K ∧ K ≤ 15 ∧ M ≤ 15 ∧ ((M = 0 ∧ ((K ≤ x ∧ x - K = y ∧ y = z) ∨ (K ≤ y ∧ y - K = z ∧ x = z) ∨ (K ≤ z ∧ z - K = x ∧ x = y))) ∨ (1 ≤ M ∧ ((K ≤ x ∧ M ≤ y ∧ x - K = y - M ∧ y - M = z) ∨ (K ≤ x ∧ M ≤ z ∧ x - K = y ∧ y = z - M) ∨ (K ≤ y ∧ M ≤ z ∧ x = y - K ∧ y - K = z - M))))
theorem hg_Tgt_ex {x y z : Nat} (hx : x ≤ 15) (hy : y ≤ 15) (hz : z ≤ 15) (h : ¬ (x = y ∧ y = z)) : ∃ K M, hg_Tgt x y z K M := by
  unfold hg_Tgt
  by_cases h1 : x ≤ y
  · by_cases h2 : x ≤ z
    · by_cases h3 : x = y
      · exact ⟨z - x, 0, by omega⟩
      · exact ⟨y - x, z - x, by omega⟩
    · by_cases h3 : y = z
      · omega
      · exact ⟨x - z, y - z, by omega⟩
  · by_cases h2 : y ≤ z
    · exact ⟨x - y, z - y, by omega⟩
    · exact ⟨x - z, y - z, by omega⟩
theorem hg_m1 {x y z k : Nat} (hk : 1 ≤ k) (h : k ≤ x) : ((x - k, y, z) : hg_T) ∈ hg_LX 2 x y z := hg_mem2.mpr (by dsimp only; omega)
theorem hg_m2 {x y z k : Nat} (hk : 1 ≤ k) (h : k ≤ y) : ((x, y - k, z) : hg_T) ∈ hg_LX 2 x y z := hg_mem2.mpr (by dsimp only; omega)
theorem hg_m3 {x y z k : Nat} (hk : 1 ≤ k) (h : k ≤ z) : ((x, y, z - k) : hg_T) ∈ hg_LX 2 x y z := hg_mem2.mpr (by dsimp only; omega)
theorem hg_m4 {x y z k m : Nat} (hk : 1 ≤ k) (hm : 1 ≤ m) (h : k ≤ x ∧ m ≤ y) : ((x - k, y - m, z) : hg_T) ∈ hg_LX 2 x y z := hg_mem2.mpr (by dsimp only; omega)
theorem hg_m5 {x y z k m : Nat} (hk : 1 ≤ k) (hm : 1 ≤ m) (h : k ≤ x ∧ m ≤ z) : ((x - k, y, z - m) : hg_T) ∈ hg_LX 2 x y z := hg_mem2.mpr (by dsimp only; omega)
theorem hg_m6 {x y z k m : Nat} (hk : 1 ≤ k) (hm : 1 ≤ m) (h : k ≤ y ∧ m ≤ z) : ((x, y - k, z - m) : hg_T) ∈ hg_LX 2 x y z := hg_mem2.mpr (by dsimp only; omega)
theorem hg_z1 {x y z k : Nat} (hk : 1 ≤ k) (o : k ≤ x) (e1 : x - k = y) : ¬ (x = y ∧ y = z) := by omega
theorem hg_z2 {x y z k : Nat} (hk : 1 ≤ k) (o : k ≤ y) (e1 : x = y - k) : ¬ (x = y ∧ y = z) := by omega
theorem hg_z3 {x y z k : Nat} (hk : 1 ≤ k) (o : k ≤ z) (e1 : y = z - k) : ¬ (x = y ∧ y = z) := by omega
theorem hg_z4 {x y z k m : Nat} (hk : 1 ≤ k) (o : k ≤ x ∧ m ≤ y) (e1 : x - k = y - m) (e2 : y - m = z) : ¬ (x = y ∧ y = z) := by omega
theorem hg_z6 {x y z k m : Nat} (hk : 1 ≤ k) (o : k ≤ y ∧ m ≤ z) (e1 : x = y - k) : ¬ (x = y ∧ y = z) := by omega
theorem hg_n2 {a b c d : Nat} (ha : a ≤ 15) (hb : b ≤ 15) (hc : c < 1000) (hd : d < 1000) (o : ¬ (c ≤ a ∧ d ≤ b)) : nI a - nI c < 0 ∨ nI b - nI d < 0 := by
  by_cases e : c ≤ a
  · exact Or.inr (pk_sneg (by omega) (by omega))
  · exact Or.inl (pk_sneg (by omega) (by omega))
theorem hg_ta {x y z k m K M : Nat} (hT : (x = y ∧ y = z) ∨ hg_Tgt x y z K M) (hi : (x = y ∧ y = z) ∨ k < K ∨ (k = K ∧ 1 ≤ M ∧ m ≤ M)) (n4 : ¬ ((k ≤ x ∧ m ≤ y) ∧ x - k = y - m ∧ y - m = z)) (n5 : ¬ ((k ≤ x ∧ m ≤ z) ∧ x - k = y ∧ y = z - m)) (n6 : ¬ ((k ≤ y ∧ m ≤ z) ∧ x = y - k ∧ y - k = z - m)) : (x = y ∧ y = z) ∨ k < K ∨ (k = K ∧ 1 ≤ M ∧ m + 1 ≤ M) := by
  rcases hT with hz | ⟨_, _, _, ht⟩
  · exact Or.inl hz
  · rcases hi with hz | hl | ⟨ek, hM, hm⟩
    · exact Or.inl hz
    · exact Or.inr (Or.inl hl)
    · by_cases em : m = M
      · subst ek em
        rcases ht with ⟨h0, _⟩ | ⟨_, ⟨a, b, c, d⟩ | ⟨a, b, c, d⟩ | ⟨a, b, c, d⟩⟩
        · omega
        · exact absurd ⟨⟨a, b⟩, c, d⟩ n4
        · exact absurd ⟨⟨a, b⟩, c, d⟩ n5
        · exact absurd ⟨⟨a, b⟩, c, d⟩ n6
      · exact Or.inr (Or.inr ⟨ek, hM, Nat.lt_of_le_of_ne hm em⟩)
theorem hg_tb {x y z k K M : Nat} (hT : (x = y ∧ y = z) ∨ hg_Tgt x y z K M) (hi : (x = y ∧ y = z) ∨ k ≤ K) (n1 : ¬ (k ≤ x ∧ x - k = y ∧ y = z)) (n2 : ¬ (k ≤ y ∧ x = y - k ∧ y - k = z)) (n3 : ¬ (k ≤ z ∧ x = y ∧ y = z - k)) : (x = y ∧ y = z) ∨ k < K ∨ (k = K ∧ 1 ≤ M ∧ 1 ≤ M) := by
  rcases hT with hz | ⟨_, _, _, ht⟩
  · exact Or.inl hz
  · rcases hi with hz | hl
    · exact Or.inl hz
    · by_cases ek : k = K
      · subst ek
        rcases ht with ⟨_, ⟨a, b, c⟩ | ⟨a, b, c⟩ | ⟨a, b, c⟩⟩ | ⟨hM, _⟩
        · exact absurd ⟨a, b, c⟩ n1
        · exact absurd ⟨a, by omega, b⟩ n2
        · exact absurd ⟨a, c, by omega⟩ n3
        · exact Or.inr (Or.inr ⟨rfl, hM, hM⟩)
      · exact Or.inr (Or.inl (Nat.lt_of_le_of_ne hl ek))
theorem hg_tc {x y z k m K M : Nat} (hT : (x = y ∧ y = z) ∨ hg_Tgt x y z K M) (hm : m = 16) (hi : (x = y ∧ y = z) ∨ k < K ∨ (k = K ∧ 1 ≤ M ∧ m ≤ M)) : (x = y ∧ y = z) ∨ k + 1 ≤ K := by
  rcases hT with hz | ⟨_, _, hM, _⟩
  · exact Or.inl hz
  · rcases hi with hz | hl | ⟨_, _, h3⟩
    · exact Or.inl hz
    · exact Or.inr hl
    · omega
theorem hg_td {x y z k K M : Nat} (hT : (x = y ∧ y = z) ∨ hg_Tgt x y z K M) (hk : k = 16) (hi : (x = y ∧ y = z) ∨ k ≤ K) : x = y ∧ y = z := by
  rcases hT with hz | ⟨_, hK, _, _⟩
  · exact hz
  · rcases hi with hz | hl
    · exact hz
    · omega
theorem hy_f54 {post J : Int32 → Prop} {cn : Int32} {xs ys zs : Nat → Int32} {x y z k K M : Nat} (hx : x ≤ 15) (hy : y ≤ 15) (hz : z ≤ 15) (hk : 1 ≤ k) (hk2 : k ≤ 15) (hW : ∀ q : hg_T, q ∈ hg_LX 2 x y z → hg_Bd q.1 q.2.1 q.2.2 ∧ wn (hg_key q.1 q.2.1 q.2.2) = hg_bI (hg_Wq 2 q)) (hT : (x = y ∧ y = z) ∨ hg_Tgt x y z K M) (h1 : ¬ (x = y ∧ y = z) → post 1) (hJ : (x = y ∧ y = z) ∨ k + 1 ≤ K → J (nI (k + 1))) : ∀ (d m : Nat), m + d = 16 → 1 ≤ m → ((x = y ∧ y = z) ∨ k < K ∨ (k = K ∧ 1 ≤ M ∧ m ≤ M)) → wY_findsLost_54 post J (nI x) (nI y) (nI z) (nI k) cn fd h xs ys zs wn vl tk lm nb (d + 1) (nI m)
  | 0, m, hm, hm1, hi => br_t (nI_lt (a := 15) (by omega) (by omega)) (nm_r (nI_1 _) (hJ (hg_tc hT hm hi)))
  | d + 1, m, hm, hm1, hi => by
    have hm2 : m < 1000 := by omega
    have hk3 : k < 1000 := by omega
    refine br_f (nI_nlt (a := 15) (by omega) (by omega)) ?_
    refine hy_lost2 (x := x) (y := y) (z := z) (k ≤ x ∧ m ≤ y) (x - k) (y - m) z hW (fun o => ⟨pk_sub o.1, pk_sub o.2, rfl, hg_m4 hk hm1 o⟩) (fun o => ?_) (fun o e1 e2 => br_f (by decide) (h1 (hg_z4 hk o e1 e2))) (fun n4 => br_t rfl ?_)
    · rcases hg_n2 hx hy hk3 hm2 o with n | n
      · exact Or.inl n
      · exact Or.inr (Or.inl n)
    refine hy_lost2 (x := x) (y := y) (z := z) (k ≤ x ∧ m ≤ z) (x - k) y (z - m) hW (fun o => ⟨pk_sub o.1, rfl, pk_sub o.2, hg_m5 hk hm1 o⟩) (fun o => ?_) (fun o e1 e2 => br_f (by decide) (h1 (hg_z1 hk o.1 e1))) (fun n5 => br_t rfl ?_)
    · rcases hg_n2 hx hz hk3 hm2 o with n | n
      · exact Or.inl n
      · exact Or.inr (Or.inr n)
    refine hy_lost2 (x := x) (y := y) (z := z) (k ≤ y ∧ m ≤ z) x (y - k) (z - m) hW (fun o => ⟨rfl, pk_sub o.1, pk_sub o.2, hg_m6 hk hm1 o⟩) (fun o => ?_) (fun o e1 e2 => br_f (by decide) (h1 (hg_z6 hk o e1))) (fun n6 => br_t rfl ?_)
    · rcases hg_n2 hy hz hk3 hm2 o with n | n
      · exact Or.inr (Or.inl n)
      · exact Or.inr (Or.inr n)
    refine nm_r (nI_1 _) ?_
    exact hy_f54 hx hy hz hk hk2 hW hT h1 hJ d (m + 1) (by omega) (by omega) (hg_ta hT hi n4 n5 n6)
theorem hy_f3 {post : Int32 → Prop} {cn : Int32} {xs ys zs : Nat → Int32} {x y z K M : Nat} (hx : x ≤ 15) (hy : y ≤ 15) (hz : z ≤ 15) (hW : ∀ q : hg_T, q ∈ hg_LX 2 x y z → hg_Bd q.1 q.2.1 q.2.2 ∧ wn (hg_key q.1 q.2.1 q.2.2) = hg_bI (hg_Wq 2 q)) (hT : (x = y ∧ y = z) ∨ hg_Tgt x y z K M) (h1 : ¬ (x = y ∧ y = z) → post 1) (h0 : (x = y ∧ y = z) → post 0) : ∀ (d k : Nat), k + d = 16 → 1 ≤ k → ((x = y ∧ y = z) ∨ k ≤ K) → wY_findsLost_3 post (nI x) (nI y) (nI z) cn fd h xs ys zs wn vl tk lm nb (d + 1) (nI k)
  | 0, k, hk, hk1, hi => br_t (nI_lt (a := 15) (by omega) (by omega)) (h0 (hg_td hT hk hi))
  | d + 1, k, hk, hk1, hi => by
    have hk3 : k < 2 ^ 30 := by omega
    refine br_f (nI_nlt (a := 15) (by omega) (by omega)) ?_
    refine hy_lost2 (x := x) (y := y) (z := z) (k ≤ x) (x - k) y z hW (fun o => ⟨pk_sub o, rfl, rfl, hg_m1 hk1 o⟩) (fun o => Or.inl (pk_sneg hk3 (Nat.lt_of_not_le o))) (fun o e1 e2 => br_f (by decide) (h1 (hg_z1 hk1 o e1))) (fun n1 => br_t rfl ?_)
    refine hy_lost2 (x := x) (y := y) (z := z) (k ≤ y) x (y - k) z hW (fun o => ⟨rfl, pk_sub o, rfl, hg_m2 hk1 o⟩) (fun o => Or.inr (Or.inl (pk_sneg hk3 (Nat.lt_of_not_le o)))) (fun o e1 e2 => br_f (by decide) (h1 (hg_z2 hk1 o e1))) (fun n2 => br_t rfl ?_)
    refine hy_lost2 (x := x) (y := y) (z := z) (k ≤ z) x y (z - k) hW (fun o => ⟨rfl, rfl, pk_sub o, hg_m3 hk1 o⟩) (fun o => Or.inr (Or.inr (pk_sneg hk3 (Nat.lt_of_not_le o)))) (fun o e1 e2 => br_f (by decide) (h1 (hg_z3 hk1 o e2))) (fun n3 => br_t rfl ?_)
    have hk15 : k ≤ 15 := by omega
    have hkd : k + 1 + d = 16 := by omega
    exact ⟨16, hy_f54 hx hy hz hk1 hk15 hW hT h1 (fun hi2 => hy_f3 hx hy hz hW hT h1 h0 d (k + 1) hkd (Nat.succ_le_succ (Nat.zero_le k)) hi2) 15 1 rfl (Nat.le_refl 1) (hg_tb hT hi n1 n2 n3)⟩
theorem hy_finds {post : Int32 → Prop} {cn : Int32} {xs ys zs : Nat → Int32} {x y z : Nat} (hx : x ≤ 15) (hy : y ≤ 15) (hz : z ≤ 15) (hW : ∀ q : hg_T, q ∈ hg_LX 2 x y z → hg_Bd q.1 q.2.1 q.2.2 ∧ wn (hg_key q.1 q.2.1 q.2.2) = hg_bI (hg_Wq 2 q)) (hp : post (hg_bI (hg_W 2 x y z))) : wpY_findsLost post (cn, fd, h, xs, ys, zs, wn, vl, tk, lm, nb) (nI x) (nI y) (nI z) := by
  have hp' : post (hg_bI (hg_w2 x y z)) := hp
  have h1 : ¬ (x = y ∧ y = z) → post 1 := by
    intro n
    rw [hg_w2T.mpr n] at hp'
    exact hp'
  have h0 : (x = y ∧ y = z) → post 0 := by
    intro n
    rw [hg_w2F.mpr n] at hp'
    exact hp'
  by_cases e : x = y ∧ y = z
  · exact ⟨16, hy_f3 (K := 0) (M := 0) hx hy hz hW (Or.inl e) h1 h0 15 1 (by omega) (by omega) (Or.inl e)⟩
  · obtain ⟨K, M, hT⟩ := hg_Tgt_ex hx hy hz e
    exact ⟨16, hy_f3 hx hy hz hW (Or.inr hT) h1 h0 15 1 (by omega) (by omega) (Or.inr hT.1)⟩
theorem hy_j165 {post : SY → Prop} {cn : Int32} {xs ys zs : Nat → Int32} {g x y z m : Nat} (hg : g < 8) (hb : hg_Bd x y z) (w : Bool) (hm : m ≤ 16) (ht : ∀ v, v < m → tk v ≠ 0) (ht0 : tk m = 0) (hv : g = 0 ∨ g = 7 → m = hg_V g x y z) (hp : post (cn, fd, h, xs, ys, zs, upd wn (hg_key x y z) (hg_bI w), upd vl (hg_key x y z) (nI (hg_V g x y z)), tk, lm, nb)) : ∀ (d v : Nat), v + d = m → wY_judge_165 post (nI g) (nI (hg_key x y z)) (hg_bI w) cn fd h xs ys zs wn vl tk lm nb (d + 1) (nI v)
  | 0, v, hd => by
    have e : v = m := by omega
    subst e
    have hk := hg_key_lt hb
    have hin : vp_in (nI (hg_key x y z)) 22816 := vp_in_nI hk (by decide)
    refine ⟨vp_in_nI (by omega) (by decide), br_t (by rw [nI_clamp (by omega)]; exact ht0) ⟨hin, ?_⟩⟩
    refine nm_r (e' := upd wn (hg_key x y z) (hg_bI w)) (by rw [nI_clamp (by omega), hg_vnar]) ?_
    refine pk_eq g 0 (fun e => ⟨hin, ?_⟩) (fun e0 => pk_eq g 7 (fun e => ⟨hin, ?_⟩) (fun e7 => ⟨hin, ?_⟩))
    · refine nm_r (e' := upd vl (hg_key x y z) (nI (hg_V g x y z))) (by rw [nI_clamp (by omega), hv (Or.inl e)]) hp
    · refine nm_r (e' := upd vl (hg_key x y z) (nI (hg_V g x y z))) (by rw [nI_clamp (by omega), hv (Or.inr e)]) hp
    · have ev : hg_V g x y z = 0 := by
        unfold hg_V
        rw [if_neg e0, if_neg e7]
      refine nm_r (e' := upd vl (hg_key x y z) (nI (hg_V g x y z))) (by rw [nI_clamp (by omega), ev]; rfl) hp
  | d + 1, v, hd => by
    refine ⟨vp_in_nI (by omega) (by decide), br_f (by rw [nI_clamp (by omega)]; exact ht v (by omega)) (nm_r (nI_1 _) ?_)⟩
    exact hy_j165 hg hb w hm ht ht0 hv hp d (v + 1) (by omega)
end
section
variable {fd : Int32} {h wn vl lm nb : Nat → Int32}
theorem hy_j94 {post : SY → Prop} {xs ys zs : Nat → Int32} {g own : Nat} (L : List hg_T) (hl : L.length ≤ 800) (hH : hg_H3 xs ys zs L) (hV : ∀ q : hg_T, q ∈ L → hg_Bd q.1 q.2.1 q.2.2 ∧ wn (hg_key q.1 q.2.1 q.2.2) = hg_bI (hg_Wq g q) ∧ vl (hg_key q.1 q.2.1 q.2.2) = nI (hg_Vq g q) ∧ hg_Vq g q < 64) (w0 : Bool) (hC : ∀ tk', (∀ v, v < 64 → (tk' v ≠ 0 ↔ ∃ q, q ∈ L ∧ hg_Vq g q = v)) → ∃ n165 : Nat, wY_judge_165 post (nI g) (nI own) (hg_bI (w0 || L.any (fun q => !hg_Wq g q))) (nI L.length) fd h xs ys zs wn vl tk' lm nb n165 0) : ∀ (R P : List hg_T) (tk : Nat → Int32), P ++ R = L → (∀ v, v < 64 → (tk v ≠ 0 ↔ ∃ q, q ∈ P ∧ hg_Vq g q = v)) → wY_judge_94 post (nI g) (nI own) (nI L.length) fd (R.length + 1) (hg_bI (w0 || P.any (fun q => !hg_Wq g q))) (nI P.length) h xs ys zs wn vl tk lm nb
  | [], P, tk, e, ht => by
    rw [List.append_nil] at e
    subst e
    exact br_t (nI_le (Nat.le_refl _) (by omega)) (hC tk ht)
  | q :: R, P, tk, e, ht => by
    have hlen : P.length + (R.length + 1) = L.length := by
      rw [← e, List.length_append]
      rfl
    have hq : L[P.length]? = some q := by
      rw [← e, List.getElem?_append_right (Nat.le_refl _), Nat.sub_self]
      rfl
    obtain ⟨ex, ey, ez⟩ := hH _ _ hq
    obtain ⟨hb, hw, hv, hv64⟩ := hV q (List.mem_of_getElem? hq)
    have hk := hg_key_lt hb
    have hin : vp_in (nI P.length) 800 := vp_in_nI (by omega) (by decide)
    have hin2 : vp_in (nI (hg_key q.1 q.2.1 q.2.2)) 22816 := vp_in_nI hk (by decide)
    have e' : P ++ [q] ++ R = L := by rw [List.append_assoc]; exact e
    have ht' : ∀ v, v < 64 → (upd tk (hg_Vq g q) 1 v ≠ 0 ↔ ∃ p, p ∈ P ++ [q] ∧ hg_Vq g p = v) := by
      intro v hv
      by_cases ev : v = hg_Vq g q
      · subst ev
        rw [hg_upd_eq]
        exact ⟨fun _ => ⟨q, List.mem_append.mpr (Or.inr (List.mem_singleton.mpr rfl)), rfl⟩, fun _ => by decide⟩
      · rw [hg_upd_ne ev, ht v hv]
        constructor
        · rintro ⟨p, hp, e⟩
          exact ⟨p, List.mem_append.mpr (Or.inl hp), e⟩
        · rintro ⟨p, hp, e⟩
          rcases List.mem_append.mp hp with hp | hp
          · exact ⟨p, hp, e⟩
          · rw [List.mem_singleton] at hp
            rw [hp] at e
            exact absurd e.symm ev
    have ih := hy_j94 (post := post) (own := own) L hl hH hV w0 hC R (P ++ [q]) (upd tk (hg_Vq g q) 1) e' ht'
    rw [List.any_append, List.length_append] at ih
    have ea : [q].any (fun q => !hg_Wq g q) = !hg_Wq g q := by
      show ((!hg_Wq g q) || false) = _
      rw [Bool.or_false]
    rw [ea, ← Bool.or_assoc] at ih
    refine br_f (nI_ge (by omega) (by omega)) ⟨hin, hin, hin, ?_⟩
    rw [nI_clamp (by omega), ex, ey, ez]
    refine hy_key rfl rfl rfl ⟨hin2, ?_⟩
    have etk : upd tk (vl (nI (hg_key q.1 q.2.1 q.2.2)).toNatClampNeg).toNatClampNeg (vp_nar .boolean 1) = upd tk (hg_Vq g q) 1 := by
      rw [nI_clamp (n := hg_key q.1 q.2.1 q.2.2) (by omega), hv, nI_clamp (by omega)]
      rfl
    have hin3 : vp_in (vl (nI (hg_key q.1 q.2.1 q.2.2)).toNatClampNeg) 64 := by
      rw [nI_clamp (by omega), hv]
      exact vp_in_nI hv64 (by decide)
    have ew : wn (nI (hg_key q.1 q.2.1 q.2.2)).toNatClampNeg = hg_bI (hg_Wq g q) := by
      rw [nI_clamp (by omega)]
      exact hw
    rw [ew]
    cases eW : hg_Wq g q
    · rw [eW] at ih
      refine br_t rfl ⟨hin2, hin3, nm_r etk (nm_r (nI_1 _) ?_)⟩
      have e1 : hg_bI ((w0 || P.any (fun q => !hg_Wq g q)) || !false) = 1 := by
        rw [Bool.not_false, Bool.or_true]
        rfl
      rw [e1] at ih
      exact ih
    · rw [eW] at ih
      refine br_f (by decide) ⟨hin2, hin3, nm_r etk (nm_r (nI_1 _) ?_)⟩
      rw [Bool.not_true, Bool.or_false] at ih
      exact ih
theorem hy_j70 {post : SY → Prop} {x1 x5 x6 cn : Int32} {xs ys zs : Nat → Int32} (hC : ∀ tk', (∀ v, v < 64 → tk' v = 0) → ∃ n94 : Nat, wY_judge_94 post x1 x5 cn fd n94 x6 0 h xs ys zs wn vl tk' lm nb) : ∀ (d k : Nat) (tk : Nat → Int32), k + d = 64 → (∀ v, v < k → tk v = 0) → wY_judge_70 post x1 x5 x6 cn fd (d + 1) (nI k) h xs ys zs wn vl tk lm nb
  | 0, k, tk, hk, ht => by
    have e : k = 64 := by omega
    subst e
    exact br_t (by decide) (hC tk ht)
  | d + 1, k, tk, hk, ht => by
    refine br_f (nI_ge (b := 64) (by omega) (by decide)) ⟨vp_in_nI (by omega) (by decide), ?_⟩
    refine nm_r (e' := upd tk k 0) (by rw [nI_clamp (by omega)]; rfl) (nm_r (nI_1 _) ?_)
    refine hy_j70 hC d (k + 1) (upd tk k 0) (by omega) (fun v hv => ?_)
    by_cases e : v = k
    · rw [e, hg_upd_eq]
    · rw [hg_upd_ne e]
      exact ht v (by omega)
theorem hg_anyW {g x y z : Nat} (hK : hg_K g x y z) (hm : ∀ q, q ∈ hg_LY g x y z ↔ q ∈ hg_LX g x y z) (w0 : Bool) (hw : w0 = true ↔ (g = 1 ∧ hg_LX g x y z = [])) : (w0 || (hg_LY g x y z).any (fun q => !hg_Wq g q)) = hg_W g x y z := by
  unfold hg_K at hK
  rw [Bool.eq_iff_iff, Bool.or_eq_true, hK, hw, List.any_eq_true]
  constructor
  · rintro (h | ⟨q, hq, e⟩)
    · exact Or.inr h
    · rw [Bool.not_eq_true'] at e
      exact Or.inl ⟨q, (hm q).mp hq, e⟩
  · rintro (⟨q, hq, e⟩ | h)
    · exact Or.inr ⟨q, (hm q).mpr hq, by rw [Bool.not_eq_true']; exact e⟩
    · exact Or.inl h
theorem hg_LY_len {g x y z : Nat} (hx : x ≤ 45) (hy : y ≤ 30) (hz : z ≤ 15) : (hg_LY g x y z).length ≤ 800 := by
  by_cases h3 : g = 3
  · subst h3
    show (hg_run z (fun k => (x, y + (k + 1), z - (k + 1))) ++ hg_run y (fun k => (x + (k + 1), y - (k + 1), z)) ++ hg_run x (fun k => (x - (k + 1), y, z))).length ≤ 800
    rw [List.length_append, List.length_append, hg_run_len, hg_run_len, hg_run_len]
    omega
  · by_cases h4 : g = 4
    · subst h4
      show (hg_run x (fun k => (x - (k + 1), y, z)) ++ hg_run y (fun k => (x, y - (k + 1), z)) ++ hg_run (min x y) (fun k => (x - (k + 1), y - (k + 1), z))).length ≤ 800
      rw [List.length_append, List.length_append, hg_run_len, hg_run_len, hg_run_len]
      omega
    · by_cases h5 : g = 5
      · subst h5
        have d1 : x / y ≤ x := Nat.div_le_self x y
        have d2 : y / x ≤ y := Nat.div_le_self y x
        show (if x = 0 ∨ y = 0 then [] else hg_run (x / y) (fun k => (x - (k + 1) * y, y, z)) ++ hg_run (y / x) (fun k => (x, y - (k + 1) * x, z))).length ≤ 800
        by_cases h0 : x = 0 ∨ y = 0
        · rw [if_pos h0]
          exact Nat.zero_le _
        · rw [if_neg h0, List.length_append, hg_run_len, hg_run_len]
          omega
      · have e : hg_LY g x y z = (List.range (if g = 7 then 3 else 15)).flatMap (hg_stp g x y z) := by
          unfold hg_LY
          rw [if_neg h3, if_neg h4, if_neg h5]
        rw [e]
        have h1 := hg_flen_le (n := if g = 7 then 3 else 15) (hg_stp_len g x y z)
        have h2 : (if g = 7 then 3 else 15) ≤ 15 := by
          by_cases e : g = 7
          · rw [if_pos e]; decide
          · rw [if_neg e]; decide
        omega
theorem hy_judge {post : SY → Prop} {cn : Int32} {xs ys zs tk : Nat → Int32} {g x y z : Nat} (hg : g < 8) (h6 : g ≠ 6) (hb : hg_Bd x y z) (hr : g = 3 ∨ (x ≤ 15 ∧ y ≤ 15 ∧ z ≤ 15)) (hV : ∀ q : hg_T, q ∈ hg_LX g x y z → hg_Bd q.1 q.2.1 q.2.2 ∧ wn (hg_key q.1 q.2.1 q.2.2) = hg_bI (hg_Wq g q) ∧ vl (hg_key q.1 q.2.1 q.2.2) = nI (hg_Vq g q)) (hp : ∀ cn' xs' ys' zs' tk', post (cn', fd, h, xs', ys', zs', upd wn (hg_key x y z) (hg_bI (hg_W g x y z)), upd vl (hg_key x y z) (nI (hg_V g x y z)), tk', lm, nb)) : wpY_judge post (cn, fd, h, xs, ys, zs, wn, vl, tk, lm, nb) (nI g) (nI x) (nI y) (nI z) := by
  have hk := hg_key_lt hb
  have hin : vp_in (nI (hg_key x y z)) 22816 := vp_in_nI hk (by decide)
  have hb' := hb
  unfold hg_Bd at hb'
  unfold wpY_judge
  dsimp only
  refine hy_key rfl rfl rfl ?_
  refine pk_eq g 2 (fun e => ⟨hin, ?_⟩) (fun e2 => ?_)
  · subst e
    have hr' : x ≤ 15 ∧ y ≤ 15 ∧ z ≤ 15 := by omega
    refine nm_r (e' := upd vl (hg_key x y z) (nI (hg_V 2 x y z))) (by rw [nI_clamp (by omega)]; rfl) ?_
    refine hy_finds hr'.1 hr'.2.1 hr'.2.2 (fun q hq => ⟨(hV q hq).1, (hV q hq).2.1⟩) ⟨hin, ?_⟩
    refine nm_r (e' := upd wn (hg_key x y z) (hg_bI (hg_W 2 x y z))) (by rw [nI_clamp (by omega), hg_vnar]) ?_
    exact hp _ _ _ _ _
  · refine hy_list hg hb'.1 hb'.2.1 hb'.2.2 (fun xs' ys' zs' H' => ?_)
    have hperm := hg_permJ g x y z e2
    have hm : ∀ q, q ∈ hg_LY g x y z ↔ q ∈ hg_LX g x y z := fun q => hperm.mem_iff
    have hK := hg_Kall hg h6 hr
    have hl := hg_LY_len (g := g) hb'.1 hb'.2.1 hb'.2.2
    obtain ⟨m, hm16, hm1, hm2, hm3⟩ := hg_mexall hg hr
    have hV' : ∀ q : hg_T, q ∈ hg_LY g x y z → hg_Bd q.1 q.2.1 q.2.2 ∧ wn (hg_key q.1 q.2.1 q.2.2) = hg_bI (hg_Wq g q) ∧ vl (hg_key q.1 q.2.1 q.2.2) = nI (hg_Vq g q) ∧ hg_Vq g q < 64 := by
      intro q hq
      have hq' := (hm q).mp hq
      obtain ⟨a1, a2, a3⟩ := hV q hq'
      refine ⟨a1, a2, a3, ?_⟩
      by_cases e3 : g = 3
      · subst e3
        show 0 < 64
        decide
      · have hless := hg_less e3 hq'
        have hr' : x ≤ 15 ∧ y ≤ 15 ∧ z ≤ 15 := by omega
        have := hg_V16 (g := g) (x := q.1) (y := q.2.1) (z := q.2.2) (by omega) (by omega) (by omega)
        unfold hg_Vq
        omega
    have hj : ∀ w0 : Bool, (w0 = true ↔ (g = 1 ∧ hg_LX g x y z = [])) → ∃ n70 : Nat, wY_judge_70 post (nI g) (nI (hg_key x y z)) (hg_bI w0) (nI (hg_LY g x y z).length) fd n70 0 h xs' ys' zs' wn vl tk lm nb := by
      intro w0 hw
      refine ⟨65, hy_j70 (fun tk1 ht1 => ?_) 64 0 tk (by omega) (fun v hv => absurd hv (by omega))⟩
      refine ⟨(hg_LY g x y z).length + 1, ?_⟩
      have h94 := hy_j94 (post := post) (fd := fd) (h := h) (lm := lm) (nb := nb) (own := hg_key x y z) (hg_LY g x y z) hl H' hV' w0 (fun tk2 ht2 => by
        rw [hg_anyW hK hm w0 hw]
        refine ⟨m + 1, hy_j165 hg hb (hg_W g x y z) hm16 (fun v hv => ?_) ?_ hm3 (hp _ _ _ _ _) m 0 (by omega)⟩
        · obtain ⟨q, hq, e⟩ := hm1 v hv
          exact (ht2 v (by omega)).mpr ⟨q, (hm q).mpr hq, e⟩
        · by_cases e : tk2 m = 0
          · exact e
          · obtain ⟨q, hq, e'⟩ := (ht2 m (by omega)).mp e
            exact absurd e' (hm2 q ((hm q).mp hq))) (hg_LY g x y z) [] tk1 rfl (fun v hv => ⟨fun n => absurd (ht1 v hv) n, fun ⟨q, hq, _⟩ => absurd hq List.not_mem_nil⟩)
      rw [show ([] : List hg_T).any (fun q => !hg_Wq g q) = false from rfl, Bool.or_false] at h94
      exact h94
    have hnil : hg_LY g x y z = [] ↔ hg_LX g x y z = [] := by
      constructor
      · intro e
        rw [e] at hperm
        exact hperm.nil_eq.symm
      · intro e
        rw [e] at hperm
        exact hperm.eq_nil
    refine pk_eq (hg_LY g x y z).length 0 (fun e => pk_eq g 1 (fun e1 => ?_) (fun e1 => ?_)) (fun e => ?_)
    · refine hj true ⟨fun _ => ⟨e1, hnil.mp (List.length_eq_zero_iff.mp e)⟩, fun _ => rfl⟩
    · refine hj false ⟨fun n => Bool.noConfusion n, fun n => absurd n.1 e1⟩
    · refine hj false ⟨fun n => Bool.noConfusion n, fun n => ?_⟩
      rw [hnil.mpr n.2] at e
      exact absurd rfl e
end
end
section
/-- the tables are right at q -/
def hg_Rt (g : Nat) (wn vl : Nat → Int32) (q : hg_T) : Prop := hg_Bd q.1 q.2.1 q.2.2 ∧ wn (hg_key q.1 q.2.1 q.2.2) = hg_bI (hg_Wq g q) ∧ vl (hg_key q.1 q.2.1 q.2.2) = nI (hg_Vq g q)
theorem hg_Rt_of {g : Nat} {D : Nat → Nat → Nat → Prop} {wn vl : Nat → Int32} {q : hg_T} (hG : hg_Good g D wn vl) (hb : hg_Bd q.1 q.2.1 q.2.2) (hD : D q.1 q.2.1 q.2.2) : hg_Rt g wn vl q := ⟨hb, hG _ _ _ hb hD⟩
theorem hg_Bd15 {a b c : Nat} (ha : a ≤ 15) (hb : b ≤ 15) (hc : c ≤ 15) : hg_Bd a b c := ⟨by omega, by omega, hc⟩
theorem hg_D_s1 {z0 X Y z y a b c : Nat} (h : hg_D z0 X Y z (y + 1) 0 a b c) : hg_D z0 X Y z y (X + 1) a b c := by
  unfold hg_D at h ⊢
  omega
theorem hg_D_s2 {z0 X Y z a b c : Nat} (h : hg_D z0 X Y (z + 1) 0 0 a b c) : hg_D z0 X Y z (Y + 1) 0 a b c := by
  unfold hg_D at h ⊢
  omega
theorem hg_D_s3 {z0 X Y z y x a b c : Nat} (h : hg_D z0 X Y z y (x + 1) a b c) : hg_D z0 X Y z y x a b c ∨ (a = x ∧ b = y ∧ c = z) := by
  unfold hg_D at h ⊢
  omega
theorem hg_D_0 {z0 X Y a b c : Nat} (h : hg_D z0 X Y z0 0 0 a b c) : False := by
  unfold hg_D at h
  omega
theorem hg_E_s1 {al tw Z c b x y z : Nat} (h : hg_D3 al tw Z c (b + 1) (b + 1) x y z) : hg_D3 al tw Z c b (al + 1) x y z := by
  unfold hg_D3 at h ⊢
  omega
theorem hg_E_s2 {al tw Z c x y z : Nat} (h : hg_D3 al tw Z (c + 1) (c + 1) (c + 1) x y z) : hg_D3 al tw Z c (tw + 1) (tw + 1) x y z := by
  unfold hg_D3 at h ⊢
  omega
theorem hg_E_s3 {al tw Z c b a x y z : Nat} (hcb : c ≤ b) (hba : b ≤ a) (h : hg_D3 al tw Z c b (a + 1) x y z) : hg_D3 al tw Z c b a x y z ∨ (x = a - b ∧ y = b - c ∧ z = c) := by
  unfold hg_D3 at h ⊢
  omega
theorem hg_E_0 {al tw Z x y z : Nat} (h : hg_D3 al tw Z 0 0 0 x y z) : False := by
  unfold hg_D3 at h
  omega
section
variable {fd : Int32} {h lm nb : Nat → Int32}
theorem hy_f170 {post : SY → Prop} {J143 J156 : Int32 → Int32 → Int32 → (Nat → Int32) → (Nat → Int32) → (Nat → Int32) → (Nat → Int32) → (Nat → Int32) → (Nat → Int32) → (Nat → Int32) → (Nat → Int32) → (Nat → Int32) → Prop} {g z0 X Y Z y z : Nat} (H : hg_Hp h X Y Z) (hX : X ≤ 15) (hY : Y ≤ 15) (hZ : Z ≤ 15) (hg : g < 8) (h6 : g ≠ 6) (h3 : g ≠ 3) (hz0 : (g = 4 ∨ g = 5) ∨ z0 = 0) (hz : z0 ≤ z) (hzZ : z ≤ Z) (hyY : y ≤ Y) (hJ : ∀ cn xs ys zs wn vl tk, hg_Good g (hg_D z0 X Y z (y + 1) 0) wn vl → J156 (nI (y + 1)) cn fd h xs ys zs wn vl tk lm nb) : ∀ (d x : Nat) (cn : Int32) (xs ys zs wn vl tk : Nat → Int32), x + d = X + 1 → hg_Good g (hg_D z0 X Y z y x) wn vl → wY_fill_170 post J143 J156 (nI g) (nI z) (nI y) (d + 1) (nI x) cn fd h xs ys zs wn vl tk lm nb
  | 0, x, cn, xs, ys, zs, wn, vl, tk, hd, hG => by
    have e : x = X + 1 := hd
    subst e
    have hlt : h 0 < nI (X + 1) := by rw [H.1]; exact nI_lt (by omega) (by omega)
    exact br_t hlt (nm_r (nI_1 _) (hJ _ _ _ _ _ _ _ (hg_Good_mono hG (fun a b c => hg_D_s1))))
  | d + 1, x, cn, xs, ys, zs, wn, vl, tk, hd, hG => by
    have hlt : ¬ h 0 < nI x := by rw [H.1]; exact nI_nlt (by omega) (by omega)
    refine br_f hlt ?_
    refine hy_judge hg h6 (hg_Bd15 (by omega) (by omega) (by omega)) (Or.inr ⟨by omega, by omega, by omega⟩) (fun q hq => ?_) (fun cn' xs' ys' zs' tk' => nm_r (nI_1 _) ?_)
    · have hl := hg_less h3 hq
      exact hg_Rt_of hG (hg_Bd15 (by omega) (by omega) (by omega)) (hg_D_in h3 hz0 hz (by omega) hyY hq)
    · exact hy_f170 H hX hY hZ hg h6 h3 hz0 hz hzZ hyY hJ d (x + 1) _ _ _ _ _ _ _ (by omega) (hg_Good_up hG (hg_Bd15 (by omega) (by omega) (by omega)) (fun a b c => hg_D_s3))
theorem hy_f156 {post : SY → Prop} {J143 : Int32 → Int32 → Int32 → (Nat → Int32) → (Nat → Int32) → (Nat → Int32) → (Nat → Int32) → (Nat → Int32) → (Nat → Int32) → (Nat → Int32) → (Nat → Int32) → (Nat → Int32) → Prop} {g z0 X Y Z z : Nat} (H : hg_Hp h X Y Z) (hX : X ≤ 15) (hY : Y ≤ 15) (hZ : Z ≤ 15) (hg : g < 8) (h6 : g ≠ 6) (h3 : g ≠ 3) (hz0 : (g = 4 ∨ g = 5) ∨ z0 = 0) (hz : z0 ≤ z) (hzZ : z ≤ Z) (hJ : ∀ cn xs ys zs wn vl tk, hg_Good g (hg_D z0 X Y (z + 1) 0 0) wn vl → J143 (nI (z + 1)) cn fd h xs ys zs wn vl tk lm nb) : ∀ (d y : Nat) (cn : Int32) (xs ys zs wn vl tk : Nat → Int32), y + d = Y + 1 → hg_Good g (hg_D z0 X Y z y 0) wn vl → wY_fill_156 post J143 (nI g) (nI z) (d + 1) (nI y) cn fd h xs ys zs wn vl tk lm nb
  | 0, y, cn, xs, ys, zs, wn, vl, tk, hd, hG => by
    have e : y = Y + 1 := hd
    subst e
    have hlt : h 1 < nI (Y + 1) := by rw [H.2.1]; exact nI_lt (by omega) (by omega)
    exact br_t hlt (nm_r (nI_1 _) (hJ _ _ _ _ _ _ _ (hg_Good_mono hG (fun a b c => hg_D_s2))))
  | d + 1, y, cn, xs, ys, zs, wn, vl, tk, hd, hG => by
    have hlt : ¬ h 1 < nI y := by rw [H.2.1]; exact nI_nlt (by omega) (by omega)
    refine br_f hlt ⟨X + 1 + 1, ?_⟩
    exact hy_f170 H hX hY hZ hg h6 h3 hz0 hz hzZ (by omega) (fun cn xs ys zs wn vl tk hG' => hy_f156 H hX hY hZ hg h6 h3 hz0 hz hzZ hJ d (y + 1) cn xs ys zs wn vl tk (by omega) hG') (X + 1) 0 cn xs ys zs wn vl tk (by omega) hG
theorem hy_f143 {post : SY → Prop} {g z0 X Y Z : Nat} (H : hg_Hp h X Y Z) (hX : X ≤ 15) (hY : Y ≤ 15) (hZ : Z ≤ 15) (hg : g < 8) (h6 : g ≠ 6) (h3 : g ≠ 3) (hz0 : (g = 4 ∨ g = 5) ∨ z0 = 0) (hp : ∀ cn xs ys zs wn vl tk, hg_Good g (hg_D z0 X Y (Z + 1) 0 0) wn vl → post (cn, fd, h, xs, ys, zs, wn, vl, tk, lm, nb)) : ∀ (d z : Nat) (cn : Int32) (xs ys zs wn vl tk : Nat → Int32), z + d = Z + 1 → z0 ≤ z → hg_Good g (hg_D z0 X Y z 0 0) wn vl → wY_fill_143 post (nI g) (d + 1) (nI z) cn fd h xs ys zs wn vl tk lm nb
  | 0, z, cn, xs, ys, zs, wn, vl, tk, hd, hz, hG => by
    have e : z = Z + 1 := hd
    subst e
    have hlt : h 2 < nI (Z + 1) := by rw [H.2.2]; exact nI_lt (by omega) (by omega)
    exact br_t hlt (hp _ _ _ _ _ _ _ hG)
  | d + 1, z, cn, xs, ys, zs, wn, vl, tk, hd, hz, hG => by
    have hlt : ¬ h 2 < nI z := by rw [H.2.2]; exact nI_nlt (by omega) (by omega)
    refine br_f hlt ⟨Y + 1 + 1, ?_⟩
    exact hy_f156 H hX hY hZ hg h6 h3 hz0 hz (by omega) (fun cn xs ys zs wn vl tk hG' => hy_f143 H hX hY hZ hg h6 h3 hz0 hp d (z + 1) cn xs ys zs wn vl tk (by omega) (by omega) hG') (Y + 1) 0 cn xs ys zs wn vl tk (by omega) hG
theorem hy_f68 {post : SY → Prop} {J43 J58 : Int32 → Int32 → Int32 → (Nat → Int32) → (Nat → Int32) → (Nat → Int32) → (Nat → Int32) → (Nat → Int32) → (Nat → Int32) → (Nat → Int32) → (Nat → Int32) → (Nat → Int32) → Prop} {al tw Z c b : Nat} (ha : al ≤ 45) (ht : tw ≤ 30) (hZ : Z ≤ 15) (hcZ : c ≤ Z) (hcb : c ≤ b) (hbt : b ≤ tw) (hta : tw ≤ al) (hJ : ∀ cn xs ys zs wn vl tk, hg_Good 3 (hg_D3 al tw Z c (b + 1) (b + 1)) wn vl → J58 (nI (b + 1)) cn fd h xs ys zs wn vl tk lm nb) : ∀ (d a : Nat) (cn : Int32) (xs ys zs wn vl tk : Nat → Int32), a + d = al + 1 → b ≤ a → hg_Good 3 (hg_D3 al tw Z c b a) wn vl → wY_fill_68 post J43 J58 3 (nI al) (nI tw) (nI c) (nI b) (d + 1) (nI a) cn fd h xs ys zs wn vl tk lm nb
  | 0, a, cn, xs, ys, zs, wn, vl, tk, hd, hba, hG => by
    have e : a = al + 1 := hd
    subst e
    exact br_t (nI_lt (by omega) (by omega)) (nm_r (nI_1 _) (hJ _ _ _ _ _ _ _ (hg_Good_mono hG (fun x y z => hg_E_s1))))
  | d + 1, a, cn, xs, ys, zs, wn, vl, tk, hd, hba, hG => by
    refine br_f (nI_nlt (by omega) (by omega)) ?_
    rw [pk_sub hba, pk_sub hcb]
    have hb : hg_Bd (a - b) (b - c) c := ⟨by omega, by omega, by omega⟩
    refine hy_judge (g := 3) (by decide) (by decide) hb (Or.inl rfl) (fun q hq => ?_) (fun cn' xs' ys' zs' tk' => nm_r (nI_1 _) ?_)
    · have hD := hg_D3_in (all := al) (two := tw) (h2 := Z) hcZ (by omega) (by omega) hq
      have e1 : b - c + c = b := by omega
      have e2 : a - b + (b - c) + c = a := by omega
      rw [e1, e2] at hD
      refine hg_Rt_of hG ?_ hD
      unfold hg_D3 at hD
      unfold hg_Bd
      omega
    · exact hy_f68 ha ht hZ hcZ hcb hbt hta hJ d (a + 1) _ _ _ _ _ _ _ (by omega) (by omega) (hg_Good_up hG hb (fun x y z => hg_E_s3 hcb hba))
theorem hy_f58 {post : SY → Prop} {J43 : Int32 → Int32 → Int32 → (Nat → Int32) → (Nat → Int32) → (Nat → Int32) → (Nat → Int32) → (Nat → Int32) → (Nat → Int32) → (Nat → Int32) → (Nat → Int32) → (Nat → Int32) → Prop} {al tw Z c : Nat} (ha : al ≤ 45) (ht : tw ≤ 30) (hZ : Z ≤ 15) (hcZ : c ≤ Z) (hZt : Z ≤ tw) (hta : tw ≤ al) (hJ : ∀ cn xs ys zs wn vl tk, hg_Good 3 (hg_D3 al tw Z (c + 1) (c + 1) (c + 1)) wn vl → J43 (nI (c + 1)) cn fd h xs ys zs wn vl tk lm nb) : ∀ (d b : Nat) (cn : Int32) (xs ys zs wn vl tk : Nat → Int32), b + d = tw + 1 → c ≤ b → hg_Good 3 (hg_D3 al tw Z c b b) wn vl → wY_fill_58 post J43 3 (nI al) (nI tw) (nI c) (d + 1) (nI b) cn fd h xs ys zs wn vl tk lm nb
  | 0, b, cn, xs, ys, zs, wn, vl, tk, hd, hcb, hG => by
    have e : b = tw + 1 := hd
    subst e
    exact br_t (nI_lt (by omega) (by omega)) (nm_r (nI_1 _) (hJ _ _ _ _ _ _ _ (hg_Good_mono hG (fun x y z => hg_E_s2))))
  | d + 1, b, cn, xs, ys, zs, wn, vl, tk, hd, hcb, hG => by
    refine br_f (nI_nlt (by omega) (by omega)) ⟨al + 1 - b + 1, ?_⟩
    exact hy_f68 ha ht hZ hcZ hcb (by omega) hta (fun cn xs ys zs wn vl tk hG' => hy_f58 ha ht hZ hcZ hZt hta hJ d (b + 1) cn xs ys zs wn vl tk (by omega) (by omega) hG') (al + 1 - b) b cn xs ys zs wn vl tk (by omega) (Nat.le_refl b) hG
theorem hy_f43 {post : SY → Prop} {al tw X Y Z : Nat} (H : hg_Hp h X Y Z) (ha : al ≤ 45) (ht : tw ≤ 30) (hZ : Z ≤ 15) (hZt : Z ≤ tw) (hta : tw ≤ al) (hp : ∀ cn xs ys zs wn vl tk, hg_Good 3 (hg_D3 al tw Z (Z + 1) (Z + 1) (Z + 1)) wn vl → post (cn, fd, h, xs, ys, zs, wn, vl, tk, lm, nb)) : ∀ (d c : Nat) (cn : Int32) (xs ys zs wn vl tk : Nat → Int32), c + d = Z + 1 → hg_Good 3 (hg_D3 al tw Z c c c) wn vl → wY_fill_43 post 3 (nI al) (nI tw) (d + 1) (nI c) cn fd h xs ys zs wn vl tk lm nb
  | 0, c, cn, xs, ys, zs, wn, vl, tk, hd, hG => by
    have e : c = Z + 1 := hd
    subst e
    have hlt : h 2 < nI (Z + 1) := by rw [H.2.2]; exact nI_lt (by omega) (by omega)
    exact br_t hlt (hp _ _ _ _ _ _ _ hG)
  | d + 1, c, cn, xs, ys, zs, wn, vl, tk, hd, hG => by
    have hlt : ¬ h 2 < nI c := by rw [H.2.2]; exact nI_nlt (by omega) (by omega)
    refine br_f hlt ⟨tw + 1 - c + 1, ?_⟩
    exact hy_f58 ha ht hZ (by omega) hZt hta (fun cn xs ys zs wn vl tk hG' => hy_f43 H ha ht hZ hZt hta hp d (c + 1) cn xs ys zs wn vl tk (by omega) hG') (tw + 1 - c) c cn xs ys zs wn vl tk (by omega) (Nat.le_refl c) hG
theorem hy_fill {post : SY → Prop} {cn : Int32} {xs ys zs wn vl tk : Nat → Int32} {g X Y Z : Nat} (H : hg_Hp h X Y Z) (hX : X ≤ 15) (hY : Y ≤ 15) (hZ : Z ≤ 15) (hg : g < 8) (h6 : g ≠ 6) (hp : ∀ cn xs ys zs wn vl tk, (∀ q, q = (X, Y, Z) ∨ q ∈ hg_LX g X Y Z → hg_Rt g wn vl q) → post (cn, fd, h, xs, ys, zs, wn, vl, tk, lm, nb)) : wpY_fill post (cn, fd, h, xs, ys, zs, wn, vl, tk, lm, nb) (nI g) := by
  have hn3 : g ≠ 3 → ∀ z0, (g = 4 ∨ g = 5) ∨ z0 = 0 → z0 ≤ Z → ∃ n143 : Nat, wY_fill_143 post (nI g) n143 (nI z0) cn fd h xs ys zs wn vl tk lm nb := by
    intro h3 z0 hz0 hz0Z
    refine ⟨Z + 1 - z0 + 1, hy_f143 (z0 := z0) H hX hY hZ hg h6 h3 hz0 (fun cn xs ys zs wn vl tk hG => hp _ _ _ _ _ _ _ (fun q hq => ?_)) (Z + 1 - z0) z0 cn xs ys zs wn vl tk (by omega) (Nat.le_refl _) (fun x y z _ hD => absurd hD hg_D_0)⟩
    rcases hq with rfl | hq
    · refine hg_Rt_of hG (hg_Bd15 hX hY hZ) ?_
      unfold hg_D
      dsimp only
      omega
    · have hl := hg_less h3 hq
      refine hg_Rt_of hG (hg_Bd15 (by omega) (by omega) (by omega)) ?_
      have hfl : z0 ≤ q.2.2 := by
        rcases hz0 with e | e
        · rw [hg_flat e hq]; exact hz0Z
        · omega
      unfold hg_D
      omega
  refine pk_eq g 3 (fun e => ?_) (fun e3 => pk_eq g 4 (fun e => ?_) (fun e4 => pk_eq g 5 (fun e => ?_) (fun e5 => ?_)))
  · subst e
    have e1 : h 0 + h 1 + h 2 = nI (X + Y + Z) := by rw [H.1, H.2.1, H.2.2, nI_add, nI_add]
    have e2 : h 1 + h 2 = nI (Y + Z) := by rw [H.2.1, H.2.2, nI_add]
    refine nm_r e1 (nm_r e2 ⟨Z + 1 + 1, ?_⟩)
    refine hy_f43 H (by omega) (by omega) hZ (by omega) (by omega) (fun cn xs ys zs wn vl tk hG => hp _ _ _ _ _ _ _ (fun q hq => ?_)) (Z + 1) 0 cn xs ys zs wn vl tk (by omega) (fun x y z _ hD => absurd hD hg_E_0)
    rcases hq with rfl | hq
    · refine hg_Rt_of hG (hg_Bd15 hX hY hZ) ?_
      unfold hg_D3
      dsimp only
      omega
    · have hb := hg_bd hX hY hZ hq
      refine hg_Rt_of hG ⟨by omega, hb.2.1, hb.2.2.1⟩ ?_
      unfold hg_D3
      rcases hg_mem3.mp hq with ⟨k, hk, rfl⟩ | ⟨k, hk, rfl⟩ | ⟨k, hk, rfl⟩ <;> (dsimp only; omega)
  · refine br_f (by decide) (nm_r H.2.2 (hn3 e3 Z (Or.inl (Or.inl e)) (Nat.le_refl _)))
  · refine br_f (by decide) (nm_r H.2.2 (hn3 e3 Z (Or.inl (Or.inr e)) (Nat.le_refl _)))
  · refine br_t rfl (hn3 e3 0 (Or.inr rfl) (Nat.zero_le _))
end
end
section
/-- the table of game 6 is right below (n, l) -/
def hg_GL (lm : Nat → Int32) (n l : Nat) : Prop := ∀ a b, a ≤ 60 → b ≤ 60 → (a < n ∨ (a = n ∧ b < l)) → lm (61 * a + b) = hg_bI (hg_w6 a b)
theorem hg_GL_s {lm : Nat → Int32} {n : Nat} (h : hg_GL lm n 61) : hg_GL lm (n + 1) 0 := by
  intro a b ha hb hab
  exact h a b ha hb (by omega)
theorem hg_GL_up {lm : Nat → Int32} {n l : Nat} (h : hg_GL lm n l) (hl : l ≤ 60) : hg_GL (upd lm (61 * n + l) (hg_bI (hg_w6 n l))) n (l + 1) := by
  intro a b ha hb hab
  by_cases e : 61 * a + b = 61 * n + l
  · have e1 : a = n := by omega
    have e2 : b = l := by omega
    subst e1 e2
    rw [hg_upd_eq]
  · rw [hg_upd_ne e]
    exact h a b ha hb (by omega)
theorem hg_w6_next {n j : Nat} (hn : n ≤ 60) (hj : j < n) (h0 : hg_w6 n j = false) : hg_w6 n (j + 1) = !hg_w6 (n - (j + 1)) (min 60 (2 * (j + 1))) := by
  have hn0 : ¬ (0 < hg_lst n ∧ hg_lst n ≤ j) := by
    intro z
    rw [hg_w6T.mpr z] at h0
    exact Bool.noConfusion h0
  have hpos := hg_l2 hn (by omega)
  by_cases e : hg_lst n = j + 1
  · rw [hg_l4 hn hj e.symm]
    exact hg_w6T.mpr ⟨hpos, by omega⟩
  · rw [hg_l3 hn hj (by omega)]
    cases e2 : hg_w6 n (j + 1)
    · rfl
    · have := hg_w6T.mp e2
      omega
theorem hg_w6_mono {n j : Nat} (h : hg_w6 n j = true) : hg_w6 n (j + 1) = true := by
  have := hg_w6T.mp h
  exact hg_w6T.mpr ⟨this.1, by omega⟩
theorem hg_w6_min {n l : Nat} (hn : n ≤ 60) : hg_w6 n (min n l) = hg_w6 n l := by
  have h1 := hg_l1 hn
  rw [Bool.eq_iff_iff, hg_w6T, hg_w6T]
  omega
theorem hg_w6_0 (n : Nat) : hg_w6 n 0 = false := by
  cases e : hg_w6 n 0
  · rfl
  · have := hg_w6T.mp e
    omega
theorem hg_ix6 {n k r : Nat} (hk : k ≤ n) : 61 * (nI n - nI k) + nI r = nI (61 * (n - k) + r) := by
  rw [pk_sub hk]
  show nI 61 * nI (n - k) + nI r = _
  rw [pk_mul, nI_add]
theorem hg_ix6' (n l : Nat) : 61 * nI n + nI l = nI (61 * n + l) := by
  show nI 61 * nI n + nI l = _
  rw [pk_mul, nI_add]
section
variable {h : Nat → Int32}
theorem hy_atMost {post : Int32 → Prop} {cn fd : Int32} {xs ys zs wn vl tk lm nb : Nat → Int32} {k : Nat} (hk : k < 1000) (hp : post (nI (min 60 (2 * k)))) : wpY_atMost post (cn, fd, h, xs, ys, zs, wn, vl, tk, lm, nb) (2 * nI k) := by
  have e : 2 * nI k = nI (2 * k) := pk_mul 2 k
  refine pk_le (2 * k) 60 (fun h1 => ?_) (fun h1 => ?_) e
  · have e2 : min 60 (2 * k) = 2 * k := by omega
    rw [e2] at hp
    rw [e]; exact hp
  · have e2 : min 60 (2 * k) = 60 := by omega
    rw [e2] at hp
    exact hp
theorem hy_L21 {post : SY → Prop} {J2 J10 : Int32 → (Nat → Int32) → (Nat → Int32) → (Nat → Int32) → (Nat → Int32) → (Nat → Int32) → (Nat → Int32) → (Nat → Int32) → (Nat → Int32) → (Nat → Int32) → Prop} {cn fd : Int32} {xs ys zs wn vl tk lm nb : Nat → Int32} {n l : Nat} (hn : n ≤ 60) (hl : l ≤ 60) (hG : hg_GL lm n l) (hJ : ∀ lm', hg_GL lm' n (l + 1) → J10 (nI (l + 1)) h xs ys zs wn vl tk lm' nb) : ∀ (d j : Nat), j + d = min n l → wY_fillLimited_21 post J2 J10 (nI n) (nI l) cn fd h xs ys zs wn vl tk lm nb (d + 1) (hg_bI (hg_w6 n j)) (nI (j + 1))
  | 0, j, hd => by
    have e : j = min n l := hd
    subst e
    have h73 : wY_fillLimited_73 post J2 J10 (nI n) (nI l) (hg_bI (hg_w6 n (min n l))) cn fd h xs ys zs wn vl tk lm nb := by
      rw [hg_w6_min hn]
      unfold wY_fillLimited_73
      rw [hg_ix6']
      refine ⟨vp_in_nI (by omega) (by decide), ?_⟩
      refine nm_r (e' := upd lm (61 * n + l) (hg_bI (hg_w6 n l))) (by rw [nI_clamp (by omega), hg_vnar]) (nm_r (nI_1 _) ?_)
      exact hJ _ (hg_GL_up hG hl)
    exact pk_lt n (min n l + 1) (fun _ => h73) (fun h1 => br_t (nI_lt (by omega) (by omega)) h73)
  | d + 1, j, hd => by
    refine br_f (nI_nlt (by omega) (by omega)) (br_f (nI_nlt (by omega) (by omega)) ?_)
    have ih := hy_L21 (post := post) (J2 := J2) (cn := cn) (fd := fd) hn hl hG hJ d (j + 1) (by omega)
    cases e : hg_w6 n j
    · refine br_t rfl (hy_atMost (by omega) ?_)
      have hin : 61 * (n - (j + 1)) + min 60 (2 * (j + 1)) < 3721 := by omega
      have hlk : lm (61 * (n - (j + 1)) + min 60 (2 * (j + 1))) = hg_bI (hg_w6 (n - (j + 1)) (min 60 (2 * (j + 1)))) := hG _ _ (by omega) (by omega) (by omega)
      have hnx := hg_w6_next hn (by omega) e
      rw [hg_ix6 (by omega)]
      refine ⟨vp_in_nI hin (by decide), ?_⟩
      rw [nI_clamp (by omega), hlk]
      cases e2 : hg_w6 (n - (j + 1)) (min 60 (2 * (j + 1)))
      · rw [e2] at hnx
        rw [hnx] at ih
        exact br_t rfl (nm_r (nI_1 _) ih)
      · rw [e2] at hnx
        rw [hnx] at ih
        exact br_f (by decide) (nm_r (nI_1 _) ih)
    · rw [hg_w6_mono e] at ih
      exact br_f (by decide) (nm_r (nI_1 _) ih)
theorem hy_L10 {post : SY → Prop} {J2 : Int32 → (Nat → Int32) → (Nat → Int32) → (Nat → Int32) → (Nat → Int32) → (Nat → Int32) → (Nat → Int32) → (Nat → Int32) → (Nat → Int32) → (Nat → Int32) → Prop} {cn fd : Int32} {xs ys zs wn vl tk nb : Nat → Int32} {n : Nat} (hn : n ≤ 60) (hJ : ∀ lm', hg_GL lm' (n + 1) 0 → J2 (nI (n + 1)) h xs ys zs wn vl tk lm' nb) : ∀ (d l : Nat) (lm : Nat → Int32), l + d = 61 → hg_GL lm n l → wY_fillLimited_10 post J2 (nI n) cn fd (d + 1) (nI l) h xs ys zs wn vl tk lm nb
  | 0, l, lm, hd, hG => by
    have e : l = 61 := hd
    subst e
    exact br_t (by decide) (nm_r (nI_1 _) (hJ lm (hg_GL_s hG)))
  | d + 1, l, lm, hd, hG => by
    refine br_f (nI_nlt (a := 60) (by omega) (by omega)) ⟨min n l + 1, ?_⟩
    have h21 := hy_L21 (post := post) (J2 := J2) (cn := cn) (fd := fd) hn (by omega) hG (fun lm' hG' => hy_L10 (post := post) (J2 := J2) (cn := cn) (fd := fd) hn hJ d (l + 1) lm' (by omega) hG') (min n l) 0 (by omega)
    rw [hg_w6_0] at h21
    exact h21
theorem hy_L2 {post : SY → Prop} {cn fd : Int32} {xs ys zs wn vl tk nb : Nat → Int32} (hp : ∀ lm', hg_GL lm' 61 0 → post (cn, fd, h, xs, ys, zs, wn, vl, tk, lm', nb)) : ∀ (d n : Nat) (lm : Nat → Int32), n + d = 61 → hg_GL lm n 0 → wY_fillLimited_2 post cn fd (d + 1) (nI n) h xs ys zs wn vl tk lm nb
  | 0, n, lm, hd, hG => by
    have e : n = 61 := hd
    subst e
    exact br_t (by decide) (hp lm hG)
  | d + 1, n, lm, hd, hG => by
    refine br_f (nI_nlt (a := 60) (by omega) (by omega)) ⟨62, ?_⟩
    exact hy_L10 (by omega) (fun lm' hG' => hy_L2 hp d (n + 1) lm' (by omega) hG') 61 0 lm (by omega) hG
theorem hy_limited {post : SY → Prop} {cn fd : Int32} {xs ys zs wn vl tk lm nb : Nat → Int32} (hp : ∀ lm', hg_GL lm' 61 0 → post (cn, fd, h, xs, ys, zs, wn, vl, tk, lm', nb)) : wpY_fillLimited post (cn, fd, h, xs, ys, zs, wn, vl, tk, lm, nb) :=
  ⟨62, hy_L2 hp 61 0 lm (by omega) (fun a b _ _ hab => absurd hab (by omega))⟩
theorem hg_mid_at {l1 l2 : List Nat} {v w i : Nat} (e : (l1 ++ v :: l2)[i]? = some w) : (i < l1.length ∧ l1[i]? = some w) ∨ (i = l1.length ∧ w = v) ∨ (∃ j, i = l1.length + 1 + j ∧ l2[j]? = some w) := by
  by_cases hi : i < l1.length
  · rw [List.getElem?_append_left hi] at e
    exact Or.inl ⟨hi, e⟩
  · rw [List.getElem?_append_right (by omega)] at e
    cases e2 : i - l1.length with
    | zero =>
      rw [e2] at e
      exact Or.inr (Or.inl ⟨by omega, (Option.some.inj e).symm⟩)
    | succ j =>
      rw [e2] at e
      exact Or.inr (Or.inr ⟨j, by omega, e⟩)
theorem hy_note5 {post : SY → Prop} {cn : Int32} {xs ys zs wn vl tk lm : Nat → Int32} {v : Nat} (S : List Nat) (hs : S.Pairwise (· ≤ ·)) (hb : ∀ w, w ∈ S → w < 32768) (hv : v < 32768) (hl : S.length < 800) (hp : ∀ nb' S', hg_H nb' S' → S'.Pairwise (· ≤ ·) → List.Perm S' (v :: S) → post (cn, nI S'.length, h, xs, ys, zs, wn, vl, tk, lm, nb')) : ∀ (d : Nat) (l1 l2 : List Nat) (nb : Nat → Int32), l1.length = d → l1 ++ l2 = S → (∀ w, w ∈ l2 → v < w) → (∀ i w, l1[i]? = some w → nb i = nI w) → (∀ i w, l2[i]? = some w → nb (l1.length + 1 + i) = nI w) → wY_note_5 post (nI v) cn (nI S.length) (d + 1) (nI l1.length) h xs ys zs wn vl tk lm nb := by
  have h41 : ∀ (l1 l2 : List Nat) (nb : Nat → Int32), l1 ++ l2 = S → (∀ w, w ∈ l1 → w ≤ v) → (∀ w, w ∈ l2 → v < w) → (∀ i w, l1[i]? = some w → nb i = nI w) → (∀ i w, l2[i]? = some w → nb (l1.length + 1 + i) = nI w) → wY_note_41 post (nI v) (nI l1.length) cn (nI S.length) h xs ys zs wn vl tk lm nb := by
    intro l1 l2 nb e h1 h2 n1 n2
    have hlen : l1.length + l2.length = S.length := by rw [← e, List.length_append]
    refine ⟨vp_in_nI (by omega) (by decide), ?_⟩
    refine nm_r (e' := upd nb l1.length (nI v)) (by rw [nI_clamp (by omega)]) (nm_r (nI_1 _) ?_)
    have hH : hg_H (upd nb l1.length (nI v)) (l1 ++ v :: l2) := by
      intro i w hw
      rcases hg_mid_at hw with ⟨hi, hw⟩ | ⟨hi, hw⟩ | ⟨j, hi, hw⟩
      · rw [hg_upd_ne (by omega)]
        exact n1 i w hw
      · rw [hi, hg_upd_eq, hw]
      · rw [hi, hg_upd_ne (by omega)]
        exact n2 j w hw
    have := hp _ _ hH (hg_insert (by rw [e]; exact hs) h1 (fun w hw => Nat.le_of_lt (h2 w hw))) (by rw [← e]; exact List.perm_middle)
    have el : (l1 ++ v :: l2).length = S.length + 1 := by
      rw [List.length_append]
      show l1.length + (l2.length + 1) = _
      omega
    rw [el] at this
    exact this
  intro d
  induction d with
  | zero =>
    intro l1 l2 nb hd e h2 n1 n2
    have e0 : l1 = [] := List.length_eq_zero_iff.mp hd
    subst e0
    exact br_t (by decide) (h41 [] l2 nb e (fun w hw => absurd hw List.not_mem_nil) h2 n1 n2)
  | succ d ih =>
    intro l1 l2 nb hd e h2 n1 n2
    rcases List.eq_nil_or_concat l1 with e0 | ⟨L, w, e0⟩
    · rw [e0] at hd
      exact absurd hd (by intro z; cases z)
    · rw [List.concat_eq_append] at e0
      subst e0
      have hL : (L ++ [w]).length = L.length + 1 := by rw [List.length_append]; rfl
      have hlen : (L ++ [w]).length + l2.length = S.length := by rw [← e]; exact List.length_append.symm
      have hw : nb L.length = nI w := n1 L.length w List.getElem?_concat_length
      have hwS : w ∈ S := by
        rw [← e]
        exact List.mem_append.mpr (Or.inl (List.mem_append.mpr (Or.inr (List.mem_singleton.mpr rfl))))
      have hwb := hb w hwS
      have em : nI (L ++ [w]).length - 1 = nI L.length := by rw [hL]; exact nI_pred _
      have em2 : nI (L ++ [w]).length + (-1) = nI L.length := by rw [hL]; exact pk_m1 _
      have hin1 : vp_in (nI (L ++ [w]).length - 1) 800 := by rw [em]; exact vp_in_nI (by omega) (by decide)
      have hin2 : vp_in (nI (L ++ [w]).length) 800 := vp_in_nI (by omega) (by decide)
      have ew : nb (nI (L ++ [w]).length - 1).toNatClampNeg = nI w := by rw [em, nI_clamp (by omega)]; exact hw
      refine br_f (nI_nle (by omega) (by omega)) ⟨hin1, ?_⟩
      rw [ew]
      refine pk_le w v (fun h1 => ?_) (fun h1 => ⟨hin1, hin2, ?_⟩)
      · refine h41 (L ++ [w]) l2 nb e (fun u hu => ?_) h2 n1 n2
        rcases List.mem_append.mp hu with hu | hu
        · have hs' := hs
          rw [← e, List.append_assoc, List.pairwise_append] at hs'
          have := hs'.2.2 u hu w List.mem_cons_self
          omega
        · rw [List.mem_singleton] at hu
          omega
      · refine nm_r (e' := upd nb (L ++ [w]).length (nI w)) (by rw [nI_clamp (by omega)]) (nm_r em2 ?_)
        refine ih L (w :: l2) _ (by omega) (by rw [← e, List.append_assoc]; rfl) (fun u hu => ?_) (fun i u hu => ?_) (fun i u hu => ?_)
        · rcases List.mem_cons.mp hu with rfl | hu
          · exact h1
          · exact h2 u hu
        · have hi : i < L.length := (List.getElem?_eq_some_iff.mp hu).1
          rw [hg_upd_ne (by omega)]
          exact n1 i u (by rw [List.getElem?_append_left hi]; exact hu)
        · cases i with
          | zero =>
            have : w = u := Option.some.inj hu
            rw [show L.length + 1 + 0 = (L ++ [w]).length from by omega, hg_upd_eq, this]
          | succ i =>
            rw [hg_upd_ne (by omega), show L.length + 1 + (i + 1) = (L ++ [w]).length + 1 + i from by omega]
            exact n2 i u hu
theorem hy_note {post : SY → Prop} {cn fd : Int32} {xs ys zs wn vl tk lm nb : Nat → Int32} {v : Nat} (S : List Nat) (hfd : fd = nI S.length) (hH : hg_H nb S) (hs : S.Pairwise (· ≤ ·)) (hb : ∀ w, w ∈ S → w < 32768) (hv : v < 32768) (hl : S.length < 800) (hp : ∀ nb' S', hg_H nb' S' → S'.Pairwise (· ≤ ·) → List.Perm S' (v :: S) → post (cn, nI S'.length, h, xs, ys, zs, wn, vl, tk, lm, nb')) : wpY_note post (cn, fd, h, xs, ys, zs, wn, vl, tk, lm, nb) (nI v) := by
  subst hfd
  refine ⟨S.length + 1, ?_⟩
  exact hy_note5 S hs hb hv hl hp S.length S [] nb rfl (List.append_nil S) (fun w hw => absurd hw List.not_mem_nil) hH (fun i w hw => by cases hw)
theorem hy_s125 {post : Int32 → SY → Prop} {xs ys zs wn vl tk lm : Nat → Int32} {g : Nat} (L : List hg_T) (hl : L.length ≤ 800) (hH : hg_H3 xs ys zs L) (hV : ∀ q : hg_T, q ∈ L → hg_Bd q.1 q.2.1 q.2.2 ∧ wn (hg_key q.1 q.2.1 q.2.2) = hg_bI (hg_Wq g q) ∧ hg_num q < 32768) (hp : ∀ nb S, hg_H nb S → S.Pairwise (· ≤ ·) → List.Perm S ((L.filter (fun q => !hg_Wq g q)).map hg_num) → post (nI L.length) (nI L.length, nI S.length, h, xs, ys, zs, wn, vl, tk, lm, nb)) : ∀ (R P : List hg_T) (S : List Nat) (nb : Nat → Int32), P ++ R = L → hg_H nb S → S.Pairwise (· ≤ ·) → List.Perm S ((P.filter (fun q => !hg_Wq g q)).map hg_num) → wY_search_125 post (R.length + 1) (nI P.length) (nI L.length) (nI S.length) h xs ys zs wn vl tk lm nb
  | [], P, S, nb, e, hS, hs, hP => by
    rw [List.append_nil] at e
    subst e
    exact br_t (nI_le (Nat.le_refl _) (by omega)) (hp nb S hS hs hP)
  | q :: R, P, S, nb, e, hS, hs, hP => by
    have hlen : P.length + (R.length + 1) = L.length := by
      rw [← e, List.length_append]
      rfl
    have hq : L[P.length]? = some q := by
      rw [← e, List.getElem?_append_right (Nat.le_refl _), Nat.sub_self]
      rfl
    obtain ⟨ex, ey, ez⟩ := hH _ _ hq
    obtain ⟨hb, hw, hn⟩ := hV q (List.mem_of_getElem? hq)
    have hk := hg_key_lt hb
    have hin : vp_in (nI P.length) 800 := vp_in_nI (by omega) (by decide)
    have e' : P ++ [q] ++ R = L := by rw [List.append_assoc]; exact e
    have ih := fun S nb hS hs hP => hy_s125 (post := post) L hl hH hV hp R (P ++ [q]) S nb e' hS hs hP
    rw [List.length_append] at ih
    have hSl : S.length ≤ P.length := by
      rw [hP.length_eq, List.length_map]
      exact List.length_filter_le _ _
    have hSb : ∀ w, w ∈ S → w < 32768 := by
      intro w hw
      obtain ⟨p, hp, rfl⟩ := List.mem_map.mp (hP.mem_iff.mp hw)
      refine (hV p ?_).2.2
      rw [← e]
      exact List.mem_append.mpr (Or.inl (List.mem_filter.mp hp).1)
    refine br_f (nI_ge (by omega) (by omega)) ⟨hin, hin, hin, ?_⟩
    rw [nI_clamp (by omega), ex, ey, ez]
    refine hy_key rfl rfl rfl ⟨vp_in_nI hk (by decide), ?_⟩
    rw [nI_clamp (by omega), hw]
    cases eW : hg_Wq g q
    · refine br_t rfl ⟨hin, hin, hin, ?_⟩
      have en : nI q.1 + 32 * nI q.2.1 + 1024 * nI q.2.2 = nI (hg_num q) := by
        show nI q.1 + nI 32 * nI q.2.1 + nI 1024 * nI q.2.2 = _
        rw [pk_mul, pk_mul, nI_add, nI_add]
        rfl
      rw [en]
      refine hy_note S rfl hS hs hSb hn (by omega) (fun nb' S' hS' hs' hP' => nm_r (nI_1 _) (ih S' nb' hS' hs' ?_))
      rw [List.filter_append, List.filter_cons_of_pos (by rw [eW]; rfl), List.map_append]
      refine hP'.trans ?_
      refine (List.Perm.cons _ hP).trans ?_
      exact List.perm_append_comm (l₁ := [hg_num q])
    · refine br_f (by decide) (nm_r (nI_1 _) (ih S nb hS hs ?_))
      rw [List.filter_append, List.filter_cons_of_neg (by rw [eW]; decide)]
      rw [show ([] : List hg_T).filter (fun q => !hg_Wq g q) = [] from rfl, List.append_nil]
      exact hP
theorem hy_s74 {post : Int32 → SY → Prop} {cn fd : Int32} {xs ys zs wn vl tk lm nb : Nat → Int32} {n x y z : Nat} (H : hg_Hp h x y z) (hn : n ≤ 60) (hz : z ≤ 15) (hp : post (nI (min n z)) (cn, fd, h, xs, ys, zs, wn, vl, tk, lm, nb)) : wY_search_74 post (nI n) cn fd h xs ys zs wn vl tk lm nb := by
  unfold wY_search_74
  rw [H.2.2]
  refine pk_le z n (fun h1 => ?_) (fun h1 => ?_)
  · rw [show min n z = z from by omega] at hp
    exact hp
  · rw [show min n z = n from by omega] at hp
    exact hp
theorem hy_s22 {post : Int32 → SY → Prop} {cn : Int32} {xs ys zs wn vl tk lm : Nat → Int32} {n x y z : Nat} (H : hg_Hp h x y z) (hn : n ≤ 60) (hz : z ≤ 15) (hG : hg_GL lm 61 0) (hp : ∀ nb S, hg_H nb S → S.Pairwise (· ≤ ·) → List.Perm S ((hg_N6 n z).filter (fun v => !hg_w6 (n - v) (min 60 (2 * v)))) → post (nI (min n z)) (cn, nI S.length, h, xs, ys, zs, wn, vl, tk, lm, nb)) : ∀ (d j : Nat) (S : List Nat) (nb : Nat → Int32), j + d = min n z → hg_H nb S → S.Pairwise (· ≤ ·) → List.Perm S (((List.range j).map (fun k => k + 1)).filter (fun v => !hg_w6 (n - v) (min 60 (2 * v)))) → wY_search_22 post (nI n) (d + 1) (nI (j + 1)) cn (nI S.length) h xs ys zs wn vl tk lm nb
  | 0, j, S, nb, hd, hS, hs, hP => by
    have e : j = min n z := hd
    subst e
    have h74 := hy_s74 (post := post) (cn := cn) H hn hz (hp nb S hS hs hP)
    refine pk_lt n (min n z + 1) (fun _ => h74) (fun h1 => ?_)
    refine br_t ?_ h74
    rw [H.2.2]
    exact nI_lt (by omega) (by omega)
  | d + 1, j, S, nb, hd, hS, hs, hP => by
    have hlt : ¬ h 2 < nI (j + 1) := by rw [H.2.2]; exact nI_nlt (by omega) (by omega)
    have ih := fun S nb hS hs hP => hy_s22 (post := post) (cn := cn) H hn hz hG hp d (j + 1) S nb (by omega) hS hs hP
    rw [List.range_succ, List.map_append, List.filter_append] at ih
    have hSl : S.length ≤ j := by
      have := List.length_filter_le (fun v => !hg_w6 (n - v) (min 60 (2 * v))) ((List.range j).map (fun k => k + 1))
      rw [List.length_map, List.length_range] at this
      rw [hP.length_eq]
      exact this
    have hSb : ∀ w, w ∈ S → w < 32768 := by
      intro w hw
      obtain ⟨k, hk, rfl⟩ := List.mem_map.mp (List.mem_filter.mp (hP.mem_iff.mp hw)).1
      rw [List.mem_range] at hk
      omega
    refine br_f (nI_nlt (by omega) (by omega)) (br_f hlt (hy_atMost (by omega) ?_))
    have hin : 61 * (n - (j + 1)) + min 60 (2 * (j + 1)) < 3721 := by omega
    have hlk : lm (61 * (n - (j + 1)) + min 60 (2 * (j + 1))) = hg_bI (hg_w6 (n - (j + 1)) (min 60 (2 * (j + 1)))) := hG _ _ (by omega) (by omega) (by omega)
    rw [hg_ix6 (by omega)]
    refine ⟨vp_in_nI hin (by decide), ?_⟩
    rw [nI_clamp (by omega), hlk]
    cases e2 : hg_w6 (n - (j + 1)) (min 60 (2 * (j + 1)))
    · refine br_t rfl ?_
      refine hy_note S rfl hS hs hSb (by omega) (by omega) (fun nb' S' hS' hs' hP' => nm_r (nI_1 _) (ih S' nb' hS' hs' ?_))
      have ef : ([j].map (fun k => k + 1)).filter (fun v => !hg_w6 (n - v) (min 60 (2 * v))) = [j + 1] := by
        show [j + 1].filter _ = _
        rw [List.filter_cons_of_pos (by rw [e2]; rfl)]
        rfl
      rw [ef]
      exact hP'.trans ((List.Perm.cons _ hP).trans (List.perm_append_comm (l₁ := [j + 1])))
    · refine br_f (by decide) (nm_r (nI_1 _) (ih S nb hS hs ?_))
      have ef : ([j].map (fun k => k + 1)).filter (fun v => !hg_w6 (n - v) (min 60 (2 * v))) = [] := by
        show [j + 1].filter _ = _
        rw [List.filter_cons_of_neg (by rw [e2]; decide)]
        rfl
      rw [ef, List.append_nil]
      exact hP
theorem hy_counters {post : Int32 → Prop} {cn fd : Int32} {xs ys zs wn vl tk lm nb : Nat → Int32} {x y z : Nat} (H : hg_Hp h x y z) (hx : x ≤ 15) (hy : y ≤ 15) (hp : post (nI (hg_pl x y))) : wpY_counters post (cn, fd, h, xs, ys, zs, wn, vl, tk, lm, nb) := by
  have e : h 0 + 16 * h 1 = nI (x + 16 * y) := by
    rw [H.1, H.2.1]
    show nI x + nI 16 * nI y = _
    rw [pk_mul, nI_add]
  refine nm_r e ?_
  unfold hg_pl at hp
  refine pk_le (x + 16 * y) 60 (fun h1 => ?_) (fun h1 => ?_)
  · rw [show min (x + 16 * y) 60 = x + 16 * y from by omega] at hp
    exact hp
  · rw [show min (x + 16 * y) 60 = 60 from by omega] at hp
    exact hp
theorem hy_search {post : Int32 → SY → Prop} {cn fd : Int32} {xs ys zs wn vl tk lm nb : Nat → Int32} {g x y z : Nat} (H : hg_Hp h x y z) (hg : g < 8) (hx : x ≤ 15) (hy : y ≤ 15) (hz : z ≤ 15) (hp : ∀ cn xs ys zs wn vl tk lm nb S, hg_H nb S → S.Pairwise (· ≤ ·) → List.Perm S (hg_XF g x y z) → post (nI (hg_XN g x y z).length) (cn, nI S.length, h, xs, ys, zs, wn, vl, tk, lm, nb)) : wpY_search post (cn, fd, h, xs, ys, zs, wn, vl, tk, lm, nb) (nI g) := by
  refine pk_eq g 6 (fun e => ?_) (fun e6 => ?_)
  · subst e
    have hpl : hg_pl x y ≤ 60 := by unfold hg_pl; omega
    refine hy_limited (fun lm' hG => ?_)
    refine hy_counters H hx hy ?_
    refine ⟨min (hg_pl x y) z + 1, ?_⟩
    refine hy_s22 H hpl hz hG (fun nb S hS hs hP => ?_) (min (hg_pl x y) z) 0 [] nb (by omega) (hg_H_0 _) List.Pairwise.nil (List.Perm.refl _)
    have eF : hg_XF 6 x y z = (hg_N6 (hg_pl x y) z).filter (fun v => !hg_w6 (hg_pl x y - v) (min 60 (2 * v))) := by
      show (hg_N6 (hg_pl x y) z).filter (fun v => !hg_w6 (hg_pl x y - v) (2 * v)) = _
      refine List.filter_congr (fun v hv => ?_)
      have := hg_mem6.mp hv
      rw [show min 60 (2 * v) = 2 * v from by omega]
    have eN : (hg_XN 6 x y z).length = min (hg_pl x y) z := by
      show (hg_N6 (hg_pl x y) z).length = _
      unfold hg_N6
      rw [List.length_map, List.length_range]
    have := hp cn xs ys zs wn vl tk lm' nb S hS hs (by rw [eF]; exact hP)
    rw [eN] at this
    exact this
  · refine hy_fill H hx hy hz hg e6 (fun cn xs ys zs wn vl tk hR => ?_)
    dsimp only
    rw [H.1, H.2.1, H.2.2]
    refine hy_list hg (by omega) (by omega) (by omega) (fun xs' ys' zs' H' => ?_)
    have hperm := hg_perm g x y z hx hy hz
    refine ⟨(hg_LY g x y z).length + 1, ?_⟩
    refine hy_s125 (g := g) (hg_LY g x y z) (hg_LY_len (by omega) (by omega) (by omega)) H' (fun q hq => ?_) (fun nb S hS hs hP => ?_) (hg_LY g x y z) [] [] nb rfl (hg_H_0 _) List.Pairwise.nil (List.Perm.refl _)
    · have hq' := hperm.mem_iff.mp hq
      obtain ⟨a1, a2, a3⟩ := hR q (Or.inr hq')
      have hb := hg_bd hx hy hz hq'
      refine ⟨a1, a2, ?_⟩
      unfold hg_num
      omega
    · have eF : hg_XF g x y z = hg_F g x y z := by
        rw [← hg_F_eq hx hy hz]
        unfold hg_XF
        rw [hg_XN_6 e6]
        refine List.filter_congr (fun v hv => ?_)
        unfold hg_PA
        rw [if_neg e6]
      have eN : (hg_XN g x y z).length = (hg_LY g x y z).length := by
        rw [hg_XN_6 e6, List.length_map, hperm.length_eq]
      have := hp (nI (hg_LY g x y z).length) xs' ys' zs' wn vl tk lm nb S hS hs (by rw [eF]; exact hP.trans ((hperm.filter _).map _))
      rw [eN] at this
      exact this
end
end
section
theorem hg_sort (F : List Nat) : ∃ S, List.Perm F S ∧ S.Pairwise (· ≤ ·) := by
  refine ⟨F.mergeSort (fun a b => decide (a ≤ b)), (List.mergeSort_perm F _).symm, ?_⟩
  have h := List.pairwise_mergeSort (le := fun a b : Nat => decide (a ≤ b)) (fun a b c h1 h2 => decide_eq_true (Nat.le_trans (of_decide_eq_true h1) (of_decide_eq_true h2))) (fun a b => by
    rcases Nat.le_total a b with h | h
    · rw [decide_eq_true h]; rfl
    · rw [decide_eq_true h, Bool.or_true]) F
  exact List.Pairwise.imp (fun h => of_decide_eq_true h) h
theorem hg_sort_eq {S T : List Nat} (h : List.Perm S T) (h1 : S.Pairwise (· ≤ ·)) (h2 : T.Pairwise (· ≤ ·)) : S = T :=
  List.Perm.eq_of_pairwise (fun _ _ _ _ hab hba => Nat.le_antisymm hab hba) h1 h2 h
theorem hg_XF_eq {g x y z : Nat} (h6 : g ≠ 6) (hx : x ≤ 15) (hy : y ≤ 15) (hz : z ≤ 15) : hg_XF g x y z = hg_F g x y z := by
  rw [← hg_F_eq hx hy hz]
  unfold hg_XF
  rw [hg_XN_6 h6]
  refine List.filter_congr (fun v hv => ?_)
  unfold hg_PA
  rw [if_neg h6]
theorem hg_XF_nd {g x y z : Nat} (hx : x ≤ 15) (hy : y ≤ 15) (hz : z ≤ 15) : (hg_XF g x y z).Nodup := by
  by_cases h6 : g = 6
  · subst h6
    refine List.Nodup.sublist List.filter_sublist ?_
    exact List.Pairwise.imp (fun h => Nat.ne_of_lt h) (hg_nd6 (hg_pl x y) z)
  · rw [hg_XF_eq h6 hx hy hz]
    exact hg_F_nd hx hy hz
theorem hg_Wn_iff {g x y z : Nat} (hg : g < 8) (hx : x ≤ 15) (hy : y ≤ 15) (hz : z ≤ 15) : hg_Wn g x y z = true ↔ 0 < (hg_XF g x y z).length ∨ (g = 1 ∧ (hg_XN g x y z).length = 0) := by
  by_cases h6 : g = 6
  · subst h6
    have hpl : hg_pl x y ≤ 60 := by unfold hg_pl; omega
    show hg_w6 (hg_pl x y) z = true ↔ _
    rw [hg_K6 hpl, List.length_pos_iff_exists_mem]
    constructor
    · rintro ⟨v, hv, e⟩
      have hm := hg_mem6.mp hv
      refine Or.inl ⟨v, List.mem_filter.mpr ⟨hv, ?_⟩⟩
      rw [show min 60 (2 * v) = 2 * v from by omega] at e
      show (!hg_w6 (hg_pl x y - v) (2 * v)) = true
      rw [e]; rfl
    · rintro (⟨v, hv⟩ | ⟨e, _⟩)
      · obtain ⟨h1, h2⟩ := List.mem_filter.mp hv
        have h1' : v ∈ hg_N6 (hg_pl x y) z := h1
        have hm := hg_mem6.mp h1'
        refine ⟨v, h1', ?_⟩
        have h2' : (!hg_w6 (hg_pl x y - v) (2 * v)) = true := h2
        rw [Bool.not_eq_true'] at h2'
        rw [show min 60 (2 * v) = 2 * v from by omega]
        exact h2'
      · exact absurd e (by decide)
  · have e : hg_Wn g x y z = hg_W g x y z := by
      unfold hg_Wn
      rw [if_neg h6]
    rw [e, hg_F_len hg h6 hx hy hz, hg_XF_eq h6 hx hy hz, hg_XN_6 h6, List.length_map]
theorem hg_game (v : Int32) : (v < 0 ∨ (¬ v < 0 ∧ (7 < v ∧ ¬ v ≤ 7))) ∨ ∃ g, g < 8 ∧ v = nI g := by
  by_cases h : v < 0
  · exact Or.inl (Or.inl h)
  · obtain ⟨j, hj, rfl⟩ := nI_of h
    by_cases h8 : j < 8
    · exact Or.inr ⟨j, h8, rfl⟩
    · exact Or.inl (Or.inr ⟨h, nI_lt (a := 7) (by omega) hj, nI_ge (a := 7) (by omega) hj⟩)
theorem hx_bad {post : Int32 → Prop} {v : Int32} (h : v < 0 ∨ (¬ v < 0 ∧ (7 < v ∧ ¬ v ≤ 7))) (hp : post 0) : wpX_isGame post v := by
  rcases h with h | ⟨h, h7, _⟩
  · exact br_t h hp
  · exact br_f h (br_t h7 hp)
theorem hx_good {post : Int32 → Prop} {g : Nat} (h : g < 8) (hp : post 1) : wpX_isGame post (nI g) :=
  br_f (nI_pos (by omega)) (br_f (nI_nlt (a := 7) (by omega) (by omega)) hp)
theorem hg_m4ne {v : Nat} (h : v < 32768) : ¬ nI v = -4 := by
  intro e
  have h1 : ¬ nI v < 0 := nI_pos (by omega)
  rw [e] at h1
  exact h1 (by decide)
section
variable {h : Nat → Int32}
theorem hy_bad {post : Int32 → Prop} {cn fd : Int32} {xs ys zs wn vl tk lm nb : Nat → Int32} {v : Int32} (hv : v < 0 ∨ (¬ v < 0 ∧ (7 < v ∧ ¬ v ≤ 7))) (hp : post 1) : wpY_noGame post (cn, fd, h, xs, ys, zs, wn, vl, tk, lm, nb) v := by
  rcases hv with hv | ⟨hv, _, h7⟩
  · exact br_t hv hp
  · exact br_f hv (br_f h7 hp)
theorem hy_good {post : Int32 → Prop} {cn fd : Int32} {xs ys zs wn vl tk lm nb : Nat → Int32} {g : Nat} (hg : g < 8) (hp : post 0) : wpY_noGame post (cn, fd, h, xs, ys, zs, wn, vl, tk, lm, nb) (nI g) :=
  br_f (nI_pos (by omega)) (br_t (nI_le (b := 7) (by omega) (by decide)) hp)
theorem hy_won {post : Int32 → SY → Prop} {cn fd : Int32} {xs ys zs wn vl tk lm nb : Nat → Int32} {g x y z : Nat} (H : hg_Hp h x y z) (hg : g < 8) (hx : x ≤ 15) (hy : y ≤ 15) (hz : z ≤ 15) (hp : ∀ cn fd xs ys zs wn vl tk lm nb, post (hg_bI (hg_Wn g x y z)) (cn, fd, h, xs, ys, zs, wn, vl, tk, lm, nb)) : wpY_won post (cn, fd, h, xs, ys, zs, wn, vl, tk, lm, nb) (nI g) := by
  unfold wpY_won
  dsimp only
  refine hy_good hg (br_t rfl ?_)
  refine hy_search H hg hx hy hz (fun cn xs ys zs wn vl tk lm nb S hS hs hP => ?_)
  have hW := hg_Wn_iff hg hx hy hz
  rw [← hP.length_eq] at hW
  have hSl : S.length ≤ 720 := by
    rw [hP.length_eq]
    exact Nat.le_trans (List.length_filter_le _ _) (hg_XN_len hx hy hz)
  have hNl := hg_XN_len (g := g) hx hy hz
  have hp1 : hg_Wn g x y z = true → post 1 (cn, nI S.length, h, xs, ys, zs, wn, vl, tk, lm, nb) := by
    intro e
    have := hp cn (nI S.length) xs ys zs wn vl tk lm nb
    rw [e] at this
    exact this
  have hp0 : ¬ hg_Wn g x y z = true → post 0 (cn, nI S.length, h, xs, ys, zs, wn, vl, tk, lm, nb) := by
    intro e
    have := hp cn (nI S.length) xs ys zs wn vl tk lm nb
    rw [Bool.not_eq_true] at e
    rw [e] at this
    exact this
  refine pk_lt 0 S.length (fun h1 => hp1 (hW.mpr (Or.inl h1))) (fun h1 => ?_)
  refine pk_eq g 1 (fun e => pk_eq (hg_XN g x y z).length 0 (fun e2 => hp1 (hW.mpr (Or.inr ⟨e, e2⟩))) (fun e2 => hp0 (fun z => ?_))) (fun e => hp0 (fun z => ?_))
  · rcases hW.mp z with h2 | ⟨_, h2⟩
    · omega
    · exact e2 h2
  · rcases hW.mp z with h2 | ⟨h2, _⟩
    · omega
    · exact e h2
end
theorem hg_Hp_upd {h : Nat → Int32} {x y z j n : Nat} (H : hg_Hp h x y z) (hx : x ≤ 15) (hy : y ≤ 15) (hz : z ≤ 15) (hj : j < 3) (hn : n ≤ 15) : ∃ x' y' z', x' ≤ 15 ∧ y' ≤ 15 ∧ z' ≤ 15 ∧ hg_Hp (upd h j (nI n)) x' y' z' := by
  have : j = 0 ∨ j = 1 ∨ j = 2 := by omega
  rcases this with rfl | rfl | rfl
  · exact ⟨n, y, z, hn, hy, hz, hg_upd_eq, (hg_upd_ne (by decide)).trans H.2.1, (hg_upd_ne (by decide)).trans H.2.2⟩
  · exact ⟨x, n, z, hx, hn, hz, (hg_upd_ne (by decide)).trans H.1, hg_upd_eq, (hg_upd_ne (by decide)).trans H.2.2⟩
  · exact ⟨x, y, n, hx, hy, hn, (hg_upd_ne (by decide)).trans H.1, (hg_upd_ne (by decide)).trans H.2.1, hg_upd_eq⟩
theorem hg_Hp_new (h : Nat → Int32) (a b c : Nat) : hg_Hp (upd (upd (upd h 0 (nI a)) 1 (nI b)) 2 (nI c)) a b c :=
  ⟨(hg_upd_ne (by decide)).trans ((hg_upd_ne (by decide)).trans hg_upd_eq), (hg_upd_ne (by decide)).trans hg_upd_eq, hg_upd_eq⟩
end
section
/-- both have the same heaps, of 0 to 15 counters; all else is made anew by each call -/
def i_Rel (k : Nat) (u : SX) (v : SY) : Prop := ∃ x y z : Nat, x ≤ 15 ∧ y ≤ 15 ∧ z ≤ 15 ∧ hg_Hp u.2.1 x y z ∧ u.2.1 = v.2.2.1
theorem i_up {k : Nat} {u : SX} {v : SY} (h : i_Rel k u v) : i_Rel (k + 3) u v := h
theorem i_vc0 : wpX_init (fun u => wpY_init (fun v => i_Rel 0 u v)) :=
  ⟨0, 0, 0, by decide, by decide, by decide, ⟨rfl, rfl, rfl⟩, rfl⟩
theorem i_vc_heap {k : Nat} {u : SX} {v : SY} (I : i_Rel k u v) (hk : k + 3 ≤ 1536) (v1 : Int32) (v2 : Int32) : wpX_heap (fun r u' => wpY_heap (fun r' v' => r' = r ∧ i_Rel (k + 3) u' v') v v1 v2) u v1 v2 := by
  obtain ⟨l, h, a⟩ := u
  obtain ⟨cn, fd, h', xs, ys, zs, wn, vl, tk, lm, nb⟩ := v
  have I' := I
  obtain ⟨x, y, z, hx, hy, hz, H, e⟩ := I
  dsimp only at H e
  subst e
  unfold wpX_heap
  dsimp only
  by_cases h1 : v1 < 0
  · exact br_t h1 (br_t rfl (br_t h1 ⟨rfl, I'⟩))
  · obtain ⟨j, hj, rfl⟩ := nI_of h1
    by_cases h3 : j < 3
    · have n3 : ¬ (3 : Int32) ≤ nI j := nI_ge (b := 3) h3 (by decide)
      have n2 : ¬ (2 : Int32) < nI j := nI_nlt (a := 2) (by omega) (by omega)
      refine br_f h1 (br_f n3 (br_f (by decide) ?_))
      by_cases h2 : v2 < 0
      · exact br_t h2 (br_f h1 (br_f n2 (br_t h2 ⟨rfl, I'⟩)))
      · obtain ⟨n, hn, rfl⟩ := nI_of h2
        by_cases h15 : n ≤ 15
        · have l15 : nI n ≤ 15 := nI_le (b := 15) h15 (by decide)
          have hin : vp_in (nI j) 3 := vp_in_nI h3 (by decide)
          refine br_f h2 (br_t l15 ⟨hin, nm_e ⟨hin, nm_e ?_⟩⟩)
          refine br_f h1 (br_f n2 (br_f h2 (br_t l15 ⟨hin, nm_e ⟨hin, nm_e ⟨rfl, ?_⟩⟩⟩)))
          obtain ⟨x', y', z', hx', hy', hz', H'⟩ := hg_Hp_upd H hx hy hz h3 h15
          rw [nI_clamp hj]
          exact ⟨x', y', z', hx', hy', hz', H', rfl⟩
        · have l15 : ¬ nI n ≤ 15 := nI_ge (a := 15) (by omega) hn
          exact br_f h2 (br_f l15 (br_f h1 (br_f n2 (br_f h2 (br_f l15 ⟨rfl, I'⟩)))))
    · have n3 : (3 : Int32) ≤ nI j := nI_le (a := 3) (by omega) hj
      have n2 : (2 : Int32) < nI j := nI_lt (a := 2) (by omega) hj
      exact br_f h1 (br_t n3 (br_t rfl (br_f h1 (br_t n2 ⟨rfl, I'⟩))))
theorem i_vc_has {k : Nat} {u : SX} {v : SY} (I : i_Rel k u v) (hk : k + 3 ≤ 1536) (v1 : Int32) : wpX_has (fun r => wpY_has (fun r' => r' = r ∧ i_Rel (k + 3) u v) v v1) u v1 := by
  obtain ⟨l, h, a⟩ := u
  obtain ⟨cn, fd, h', xs, ys, zs, wn, vl, tk, lm, nb⟩ := v
  have I' := I
  obtain ⟨x, y, z, hx, hy, hz, H, e⟩ := I
  dsimp only at H e
  subst e
  unfold wpX_has
  dsimp only
  by_cases h1 : v1 < 0
  · exact br_t h1 (br_t rfl (br_t h1 ⟨rfl, I'⟩))
  · obtain ⟨j, hj, rfl⟩ := nI_of h1
    by_cases h3 : j < 3
    · have n3 : ¬ (3 : Int32) ≤ nI j := nI_ge (b := 3) h3 (by decide)
      have n2 : nI j ≤ 2 := nI_le (b := 2) (by omega) (by omega)
      have hin : vp_in (nI j) 3 := vp_in_nI h3 (by decide)
      exact br_f h1 (br_f n3 (br_f (by decide) ⟨hin, br_f h1 (br_t n2 ⟨hin, rfl, I'⟩)⟩))
    · have n3 : (3 : Int32) ≤ nI j := nI_le (a := 3) (by omega) hj
      have n2 : ¬ nI j ≤ 2 := nI_ge (a := 2) (by omega) hj
      exact br_f h1 (br_t n3 (br_t rfl (br_f h1 (br_f n2 ⟨rfl, I'⟩))))
theorem i_vc_won {k : Nat} {u : SX} {v : SY} (I : i_Rel k u v) (hk : k + 3 ≤ 1536) (v1 : Int32) : wpX_won (fun r => wpY_won (fun r' v' => r' = r ∧ i_Rel (k + 3) u v') v v1) u v1 := by
  obtain ⟨l, h, a⟩ := u
  obtain ⟨cn, fd, h', xs, ys, zs, wn, vl, tk, lm, nb⟩ := v
  have I' := I
  obtain ⟨x, y, z, hx, hy, hz, H, e⟩ := I
  dsimp only at H e
  subst e
  unfold wpX_won
  dsimp only
  rcases hg_game v1 with hb | ⟨g, hg, rfl⟩
  · refine hx_bad hb (br_t rfl ?_)
    unfold wpY_won
    dsimp only
    exact hy_bad hb (br_f (by decide) ⟨rfl, I'⟩)
  · refine hx_good hg (br_f (by decide) ?_)
    refine hx_now H hg hx hy hz ?_
    cases e : hg_Wn g x y z
    · refine br_t rfl (hy_won H hg hx hy hz (fun cn fd xs ys zs wn vl tk lm nb => ?_))
      rw [e]
      exact ⟨rfl, x, y, z, hx, hy, hz, H, rfl⟩
    · refine br_f (by decide) (hy_won H hg hx hy hz (fun cn fd xs ys zs wn vl tk lm nb => ?_))
      rw [e]
      exact ⟨rfl, x, y, z, hx, hy, hz, H, rfl⟩
theorem i_vc_moves {k : Nat} {u : SX} {v : SY} (I : i_Rel k u v) (hk : k + 3 ≤ 1536) (v1 : Int32) : wpX_moves (fun r u' => wpY_moves (fun r' v' => r' = r ∧ i_Rel (k + 3) u' v') v v1) u v1 := by
  obtain ⟨l, h, a⟩ := u
  obtain ⟨cn, fd, h', xs, ys, zs, wn, vl, tk, lm, nb⟩ := v
  have I' := I
  obtain ⟨x, y, z, hx, hy, hz, H, e⟩ := I
  dsimp only at H e
  subst e
  unfold wpX_moves
  dsimp only
  rcases hg_game v1 with hb | ⟨g, hg, rfl⟩
  · refine hx_bad hb (br_t rfl ?_)
    unfold wpY_moves
    dsimp only
    exact hy_bad hb (br_f (by decide) ⟨rfl, I'⟩)
  · refine hx_good hg (br_f (by decide) ?_)
    refine hx_moves H hg hx hy hz (fun a1 _ => ?_)
    dsimp only
    unfold wpY_moves
    dsimp only
    refine hy_good hg (br_t rfl ?_)
    refine hy_search H hg hx hy hz (fun cn xs ys zs wn vl tk lm nb S hS hs hP => ?_)
    exact ⟨rfl, x, y, z, hx, hy, hz, H, rfl⟩
theorem i_vc_winning {k : Nat} {u : SX} {v : SY} (I : i_Rel k u v) (hk : k + 3 ≤ 1536) (v1 : Int32) : wpX_winning (fun r u' => wpY_winning (fun r' v' => r' = r ∧ i_Rel (k + 3) u' v') v v1) u v1 := by
  obtain ⟨l, h, a⟩ := u
  obtain ⟨cn, fd, h', xs, ys, zs, wn, vl, tk, lm, nb⟩ := v
  have I' := I
  obtain ⟨x, y, z, hx, hy, hz, H, e⟩ := I
  dsimp only at H e
  subst e
  unfold wpX_winning
  dsimp only
  rcases hg_game v1 with hb | ⟨g, hg, rfl⟩
  · refine hx_bad hb (br_t rfl ?_)
    unfold wpY_winning
    dsimp only
    exact hy_bad hb (br_f (by decide) ⟨rfl, I'⟩)
  · refine hx_good hg (br_f (by decide) ?_)
    refine hx_win H hg hx hy hz (fun a1 _ => ?_)
    dsimp only
    unfold wpY_winning
    dsimp only
    refine hy_good hg (br_t rfl ?_)
    refine hy_search H hg hx hy hz (fun cn xs ys zs wn vl tk lm nb S hS hs hP => ?_)
    exact ⟨by rw [hP.length_eq], x, y, z, hx, hy, hz, H, rfl⟩
theorem i_vc_winningMove {k : Nat} {u : SX} {v : SY} (I : i_Rel k u v) (hk : k + 3 ≤ 1536) (v1 : Int32) (v2 : Int32) : wpX_winningMove (fun r u' => wpY_winningMove (fun r' v' => r' = r ∧ i_Rel (k + 3) u' v') v v1 v2) u v1 v2 := by
  obtain ⟨l, h, a⟩ := u
  obtain ⟨cn, fd, h', xs, ys, zs, wn, vl, tk, lm, nb⟩ := v
  have I' := I
  obtain ⟨x, y, z, hx, hy, hz, H, e⟩ := I
  dsimp only at H e
  subst e
  unfold wpX_winningMove
  dsimp only
  rcases hg_game v1 with hb | ⟨g, hg, rfl⟩
  · refine hx_bad hb (br_t rfl ?_)
    unfold wpY_winningMove
    dsimp only
    exact hy_bad hb (br_f (by decide) ⟨rfl, I'⟩)
  · refine hx_good hg (br_f (by decide) ?_)
    refine hx_win H hg hx hy hz (fun a1 H1 => ?_)
    obtain ⟨T, hT, hTs⟩ := hg_sort (hg_XF g x y z)
    have hTlt : T.Pairwise (· < ·) := hg_strict hTs (hT.nodup (hg_XF_nd hx hy hz))
    have hXl : (hg_XF g x y z).length ≤ 720 := Nat.le_trans (List.length_filter_le _ _) (hg_XN_len hx hy hz)
    have hTl : T.length ≤ 720 := by rw [← hT.length_eq]; exact hXl
    refine hx_above H1 hXl (fun w hw => (hg_XN_bd hx hy hz (List.mem_filter.mp hw).1).1) hT hTlt (fun j w hj e => ?_) (fun hn => ?_)
    · have hjl : j < T.length := (List.getElem?_eq_some_iff.mp hj).1
      subst e
      unfold wpY_winningMove
      dsimp only
      refine hy_good hg (br_t rfl ?_)
      refine hy_search H hg hx hy hz (fun cn xs ys zs wn vl tk lm nb S hS hs hP => ?_)
      have eS : S = T := hg_sort_eq (hP.trans hT) hs hTs
      subst eS
      refine br_f (nI_pos (by omega)) (br_t (nI_lt hjl (by omega)) ⟨vp_in_nI (by omega) (by decide), ?_⟩)
      rw [nI_clamp (by omega)]
      exact ⟨hS j w hj, x, y, z, hx, hy, hz, H, rfl⟩
    · unfold wpY_winningMove
      dsimp only
      refine hy_good hg (br_t rfl ?_)
      refine hy_search H hg hx hy hz (fun cn xs ys zs wn vl tk lm nb S hS hs hP => ?_)
      have eS : S = T := hg_sort_eq (hP.trans hT) hs hTs
      subst eS
      by_cases h1 : v2 < 0
      · exact br_t h1 ⟨rfl, x, y, z, hx, hy, hz, H, rfl⟩
      · obtain ⟨j, hj, rfl⟩ := nI_of h1
        have hjl : ¬ j < S.length := fun hlt => hn j hlt rfl
        exact br_f h1 (br_f (nI_nlt (by omega) (by omega)) ⟨rfl, x, y, z, hx, hy, hz, H, rfl⟩)
theorem i_vc_value {k : Nat} {u : SX} {v : SY} (I : i_Rel k u v) (hk : k + 3 ≤ 1536) (v1 : Int32) : wpX_value (fun r => wpY_value (fun r' v' => r' = r ∧ i_Rel (k + 3) u v') v v1) u v1 := by
  obtain ⟨l, h, a⟩ := u
  obtain ⟨cn, fd, h', xs, ys, zs, wn, vl, tk, lm, nb⟩ := v
  have I' := I
  obtain ⟨x, y, z, hx, hy, hz, H, e⟩ := I
  dsimp only at H e
  subst e
  have hv : ∀ (g : Nat) (post : Int32 → SY → Prop), g < 8 → g ≠ 6 → (∀ cn fd xs ys zs wn vl tk lm nb, post (nI (hg_V g x y z)) (cn, fd, h, xs, ys, zs, wn, vl, tk, lm, nb)) → wY_value_12 post (nI g) cn fd h xs ys zs wn vl tk lm nb := by
    intro g post hg h6 hp
    unfold wY_value_12
    refine hy_fill H hx hy hz hg h6 (fun cn xs ys zs wn vl tk hR => ?_)
    dsimp only
    obtain ⟨hb, _, hvl⟩ := hR (x, y, z) (Or.inl rfl)
    dsimp only at hb hvl
    have hkl := hg_key_lt hb
    refine hy_key H.1 H.2.1 H.2.2 ⟨vp_in_nI hkl (by decide), ?_⟩
    rw [nI_clamp (by omega), hvl]
    exact hp _ _ _ _ _ _ _ _ _ _
  have ex : h 0 ^^^ h 1 ^^^ h 2 = nI (x ^^^ y ^^^ z) := by rw [H.1, H.2.1, H.2.2, hg_xI]
  refine nm_r ex ?_
  by_cases h0 : v1 = 0
  · subst h0
    exact br_t rfl (br_t rfl (hv 0 _ (by decide) (by decide) (fun cn fd xs ys zs wn vl tk lm nb => ⟨rfl, x, y, z, hx, hy, hz, H, rfl⟩)))
  · by_cases h7 : v1 = 7
    · subst h7
      have e3 : nI (x ^^^ y ^^^ z) &&& 3 = nI ((x ^^^ y ^^^ z) &&& 3) := nx_and _ 3
      refine br_f h0 (br_t rfl (br_f h0 (br_t rfl (hv 7 _ (by decide) (by decide) (fun cn fd xs ys zs wn vl tk lm nb => ⟨?_, x, y, z, hx, hy, hz, H, rfl⟩)))))
      rw [e3]
      rfl
    · exact br_f h0 (br_f h7 (br_f h0 (br_f h7 ⟨rfl, I'⟩)))
theorem i_vc_play {k : Nat} {u : SX} {v : SY} (I : i_Rel k u v) (hk : k + 3 ≤ 1536) (v1 : Int32) (v2 : Int32) : wpX_play (fun r u' => wpY_play (fun r' v' => r' = r ∧ i_Rel (k + 3) u' v') v v1 v2) u v1 v2 := by
  obtain ⟨l, h, a⟩ := u
  obtain ⟨cn, fd, h', xs, ys, zs, wn, vl, tk, lm, nb⟩ := v
  have I' := I
  obtain ⟨x, y, z, hx, hy, hz, H, e⟩ := I
  dsimp only at H e
  subst e
  unfold wpX_play
  dsimp only
  rcases hg_game v1 with hb | ⟨g, hg, rfl⟩
  · refine hx_bad hb (br_t rfl ?_)
    unfold wpY_play
    dsimp only
    exact hy_bad hb (br_f (by decide) ⟨rfl, I'⟩)
  · refine hx_good hg (br_f (by decide) ?_)
    by_cases g3 : nI g = 3
    · refine br_t g3 ?_
      unfold wpY_play
      dsimp only
      exact hy_good hg (br_t rfl (br_t g3 ⟨rfl, I'⟩))
    · refine br_f g3 ?_
      by_cases g6 : nI g = 6
      · refine br_t g6 ?_
        unfold wpY_play
        dsimp only
        exact hy_good hg (br_t rfl (br_f g3 (br_t g6 ⟨rfl, I'⟩)))
      · refine br_f g6 ?_
        have n3 : g ≠ 3 := fun e => g3 (by rw [e]; rfl)
        have n6 : g ≠ 6 := fun e => g6 (by rw [e]; rfl)
        refine hx_win H hg hx hy hz (fun a1 H1 => ?_)
        obtain ⟨T, hT, hTs⟩ := hg_sort (hg_XF g x y z)
        have hTlt : T.Pairwise (· < ·) := hg_strict hTs (hT.nodup (hg_XF_nd hx hy hz))
        have hXl : (hg_XF g x y z).length ≤ 720 := Nat.le_trans (List.length_filter_le _ _) (hg_XN_len hx hy hz)
        have hTl : T.length ≤ 720 := by rw [← hT.length_eq]; exact hXl
        refine hx_above H1 hXl (fun w hw => (hg_XN_bd hx hy hz (List.mem_filter.mp hw).1).1) hT hTlt (fun j w hj e => ?_) (fun hn => ?_)
        · have hjl : j < T.length := (List.getElem?_eq_some_iff.mp hj).1
          subst e
          have hwF : w ∈ hg_XF g x y z := hT.mem_iff.mpr (List.mem_of_getElem? hj)
          have hwN : w ∈ hg_XN g x y z := (List.mem_filter.mp hwF).1
          have hwb := (hg_XN_bd hx hy hz hwN).1
          have hdec : w % 32 ≤ 15 ∧ w % 1024 / 32 ≤ 15 ∧ w / 1024 ≤ 15 ∧ w / 32 % 32 = w % 1024 / 32 := by
            rw [hg_XN_6 n6] at hwN
            obtain ⟨q, hq, rfl⟩ := List.mem_map.mp hwN
            have hbq := hg_bd hx hy hz hq
            have hd := hg_num_dec (p := q) ⟨by omega, by omega⟩
            have hb2 := hbq.2.2.2 n3
            rw [hd.1, hd.2.1, hd.2.2.1, hd.2.2.2]
            exact ⟨hb2.1, hb2.2, hbq.2.2.1, rfl⟩
          have e0 : nI w - nI w / 32 * 32 = nI (w % 32) := pk_rem (d := 32) (by omega) (by omega) (by omega)
          have e1 : (nI w - nI w / 1024 * 1024) / 32 = nI (w % 1024 / 32) := by
            have := pk_rem (a := w) (d := 1024) (by omega) (by omega) (by omega)
            show (nI w - nI w / nI 1024 * nI 1024) / nI 32 = _
            rw [this, pk_div (by omega) (by omega) (by omega)]
          have e2 : nI w / 1024 = nI (w / 1024) := pk_div (d := 1024) (by omega) (by omega) (by omega)
          have e1' : nI w / 32 - nI w / 32 / 32 * 32 = nI (w % 1024 / 32) := by
            have ed : nI w / 32 = nI (w / 32) := pk_div (d := 32) (by omega) (by omega) (by omega)
            rw [ed, ← hdec.2.2.2]
            exact pk_rem (d := 32) (by omega) (by omega) (by omega)
          have Hn := hg_Hp_new h (w % 32) (w % 1024 / 32) (w / 1024)
          refine br_f (hg_m4ne hwb) ?_
          refine ⟨by decide, nm_r (e' := upd h 0 (nI (w % 32))) (by rw [e0]) ?_⟩
          refine ⟨by decide, by decide, nm_r (e' := upd (upd h 0 (nI (w % 32))) 1 (nI (w % 1024 / 32))) (by rw [e1]) ?_⟩
          refine ⟨by decide, nm_r (e' := upd (upd (upd h 0 (nI (w % 32))) 1 (nI (w % 1024 / 32))) 2 (nI (w / 1024))) (by rw [e2]) ?_⟩
          have hY : wpY_play (fun r' v' => r' = hg_bI (hg_Wn g (w % 32) (w % 1024 / 32) (w / 1024)) ∧ i_Rel (k + 3) (nI (hg_XF g x y z).length, upd (upd (upd h 0 (nI (w % 32))) 1 (nI (w % 1024 / 32))) 2 (nI (w / 1024)), a1) v') (cn, fd, h, xs, ys, zs, wn, vl, tk, lm, nb) (nI g) (nI j) := by
            unfold wpY_play
            dsimp only
            refine hy_good hg (br_t rfl (br_f g3 (br_f g6 ?_)))
            refine hy_search H hg hx hy hz (fun cn xs ys zs wn vl tk lm nb S hS hs hP => ?_)
            have eS : S = T := hg_sort_eq (hP.trans hT) hs hTs
            subst eS
            have hin : vp_in (nI j) 800 := vp_in_nI (by omega) (by decide)
            have en : nb (nI j).toNatClampNeg = nI w := by rw [nI_clamp (by omega)]; exact hS j w hj
            refine br_f (nI_pos (by omega)) (br_t (nI_lt hjl (by omega)) ⟨hin, by decide, ?_⟩)
            refine nm_r (e' := upd h 0 (nI (w % 32))) (by dsimp only; rw [en, e0]) ⟨hin, by decide, by decide, ?_⟩
            refine nm_r (e' := upd (upd h 0 (nI (w % 32))) 1 (nI (w % 1024 / 32))) (by dsimp only; rw [en, e1']) ⟨hin, by decide, ?_⟩
            refine nm_r (e' := upd (upd (upd h 0 (nI (w % 32))) 1 (nI (w % 1024 / 32))) 2 (nI (w / 1024))) (by dsimp only; rw [en, e2]) ?_
            refine hy_won Hn hg hdec.1 hdec.2.1 hdec.2.2.1 (fun cn fd xs ys zs wn vl tk lm nb => ?_)
            exact ⟨rfl, w % 32, w % 1024 / 32, w / 1024, hdec.1, hdec.2.1, hdec.2.2.1, Hn, rfl⟩
          refine hx_now Hn hg hdec.1 hdec.2.1 hdec.2.2.1 ?_
          cases e : hg_Wn g (w % 32) (w % 1024 / 32) (w / 1024)
          · rw [e] at hY
            exact br_t rfl hY
          · rw [e] at hY
            exact br_f (by decide) hY
        · refine br_t rfl ?_
          unfold wpY_play
          dsimp only
          refine hy_good hg (br_t rfl (br_f g3 (br_f g6 ?_)))
          refine hy_search H hg hx hy hz (fun cn xs ys zs wn vl tk lm nb S hS hs hP => ?_)
          have eS : S = T := hg_sort_eq (hP.trans hT) hs hTs
          subst eS
          by_cases h1 : v2 < 0
          · exact br_t h1 ⟨rfl, x, y, z, hx, hy, hz, H, rfl⟩
          · obtain ⟨j, hj, rfl⟩ := nI_of h1
            have hjl : ¬ j < S.length := fun hlt => hn j hlt rfl
            exact br_f h1 (br_f (nI_nlt (by omega) (by omega)) ⟨rfl, x, y, z, hx, hy, hz, H, rfl⟩)
end
