def hg_bI (b : Bool) : Int32 := if b = true then 1 else 0
theorem hg_bI_t : hg_bI true = 1 := rfl
theorem hg_bI_f : hg_bI false = 0 := rfl
theorem hg_bI_0 {b : Bool} : hg_bI b = 0 ↔ b = false := by
  cases b
  · exact ⟨fun _ => rfl, fun _ => rfl⟩
  · exact ⟨fun h => absurd h (by decide), fun h => Bool.noConfusion h⟩
def hg_key (x y z : Nat) : Nat := (z * 31 + y) * 46 + x
def hg_Bd (x y z : Nat) : Prop := x ≤ 45 ∧ y ≤ 30 ∧ z ≤ 15
theorem hg_key_lt {x y z : Nat} (h : hg_Bd x y z) : hg_key x y z < 22816 := by
  unfold hg_Bd at h
  unfold hg_key
  omega
theorem hg_key_inj {x y z a b c : Nat} (h : hg_Bd x y z) (h' : hg_Bd a b c) (e : hg_key a b c = hg_key x y z) : a = x ∧ b = y ∧ c = z := by
  unfold hg_Bd at h h'
  unfold hg_key at e
  omega
def hg_Good (g : Nat) (D : Nat → Nat → Nat → Prop) (w v : Nat → Int32) : Prop := ∀ x y z, hg_Bd x y z → D x y z → w (hg_key x y z) = hg_bI (hg_W g x y z) ∧ v (hg_key x y z) = nI (hg_V g x y z)
theorem hg_Good_mono {g : Nat} {D D' : Nat → Nat → Nat → Prop} {w v : Nat → Int32} (h : hg_Good g D w v) (hd : ∀ a b c, D' a b c → D a b c) : hg_Good g D' w v :=
  fun x y z hb hD => h x y z hb (hd x y z hD)
theorem hg_Good_up {g : Nat} {D D' : Nat → Nat → Nat → Prop} {w v : Nat → Int32} {x y z : Nat} (h : hg_Good g D w v) (hb : hg_Bd x y z) (hd : ∀ a b c, D' a b c → D a b c ∨ (a = x ∧ b = y ∧ c = z)) : hg_Good g D' (upd w (hg_key x y z) (hg_bI (hg_W g x y z))) (upd v (hg_key x y z) (nI (hg_V g x y z))) := by
  intro a b c hb' hD
  by_cases e : hg_key a b c = hg_key x y z
  · obtain ⟨e1, e2, e3⟩ := hg_key_inj hb hb' e
    subst e1 e2 e3
    rw [hg_upd_eq, hg_upd_eq]
    exact ⟨rfl, rfl⟩
  · rw [hg_upd_ne e, hg_upd_ne e]
    rcases hd a b c hD with h1 | ⟨rfl, rfl, rfl⟩
    · exact h a b c hb' h1
    · exact absurd rfl e
/-- what fill has judged before (x, y, z), in all games but 3 -/
def hg_D (z0 h0 h1 z y x : Nat) : Nat → Nat → Nat → Prop := fun a b c => z0 ≤ c ∧ a ≤ h0 ∧ b ≤ h1 ∧ (c < z ∨ (c = z ∧ (b < y ∨ (b = y ∧ a < x))))
/-- what fill has judged before the turn c, b, a in game 3 -/
def hg_D3 (all two h2 c b a : Nat) : Nat → Nat → Nat → Prop := fun x y z => z ≤ h2 ∧ y + z ≤ two ∧ x + y + z ≤ all ∧ (z < c ∨ (z = c ∧ (y + z < b ∨ (y + z = b ∧ x + y + z < a))))
theorem hg_D_in {g z0 h0 h1 x y z : Nat} (h3 : g ≠ 3) (hz : (g = 4 ∨ g = 5) ∨ z0 = 0) (h0z : z0 ≤ z) (hx : x ≤ h0) (hy : y ≤ h1) {q : hg_T} (h : q ∈ hg_LX g x y z) : hg_D z0 h0 h1 z y x q.1 q.2.1 q.2.2 := by
  have hl := hg_less h3 h
  unfold hg_D
  rcases hz with hz | hz
  · have := hg_flat hz h
    omega
  · omega
theorem hg_D3_in {all two h2 x y z : Nat} (hz : z ≤ h2) (hy : y + z ≤ two) (hx : x + y + z ≤ all) {q : hg_T} (h : q ∈ hg_LX 3 x y z) : hg_D3 all two h2 z (y + z) (x + y + z) q.1 q.2.1 q.2.2 := by
  unfold hg_D3
  rcases hg_mem3.mp h with ⟨k, hk, rfl⟩ | ⟨k, hk, rfl⟩ | ⟨k, hk, rfl⟩ <;> (dsimp only; omega)
