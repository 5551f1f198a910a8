theorem hx_run3 {post : SX → Prop} {fr st : Int32} {c : Nat} {h : Nat → Int32} (f : Nat → Nat) (hc : c < 1000) (hf : ∀ j, j < c → fr - nI (j + 1) * st = nI (f j)) : ∀ (d k : Nat) (L : List Nat) (a : Nat → Int32), k + d = c → hg_H a L → L.length + d ≤ 720 → (∀ a', hg_H a' (L ++ (List.range' k d).map f) → post (nI (L.length + d), h, a')) → wX_listRun_3 post fr st (nI c) (d + 1) (nI (k + 1)) (nI L.length) h a
  | 0, k, L, a, hk, hH, hl, hp => by
    have hlt : nI c < nI (k + 1) := nI_lt (by omega) (by omega)
    have := hp a (by rw [show (List.range' k 0).map f = [] from rfl, List.append_nil]; exact hH)
    exact br_t hlt this
  | d + 1, k, L, a, hk, hH, hl, hp => by
    have hlt : ¬ nI c < nI (k + 1) := nI_nlt (by omega) (by omega)
    have h7 : ¬ (720 : Int32) ≤ nI L.length := nI_ge (b := 720) (by omega) (by decide)
    refine br_f hlt (br_f h7 ⟨vp_in_nI (by omega) (by decide), ?_⟩)
    refine nm_r (e' := upd a L.length (nI (f k))) (by rw [nI_clamp (by omega), hf k (by omega)]) ?_
    refine nm_r (nI_1 _) (nm_r (nI_1 _) ?_)
    have ih := hx_run3 (post := post) (h := h) f hc hf d (k + 1) (L ++ [f k]) (upd a L.length (nI (f k))) (by omega) (hg_H_app hH (f k)) (by rw [List.length_append]; show L.length + 1 + d ≤ 720; omega) (by
      intro a' H'
      have e : L ++ (List.range' k (d + 1)).map f = L ++ [f k] ++ (List.range' (k + 1) d).map f := by
        rw [List.range'_succ, List.map_cons, List.append_assoc]
        rfl
      have e2 : (L ++ [f k]).length + d = L.length + (d + 1) := by
        rw [List.length_append]
        show L.length + 1 + d = _
        omega
      rw [e2]
      exact hp a' (by rw [e]; exact H'))
    rw [List.length_append] at ih
    exact ih
theorem hx_run {post : SX → Prop} {fr st l : Int32} {c : Nat} {h a : Nat → Int32} {L : List Nat} (f : Nat → Nat) (hl0 : l = nI L.length) (hH : hg_H a L) (hl : L.length + c ≤ 720) (hf : ∀ j, j < c → fr - nI (j + 1) * st = nI (f j)) (hp : ∀ a', hg_H a' (L ++ (List.range c).map f) → post (nI (L.length + c), h, a')) : wpX_listRun post (l, h, a) fr st (nI c) := by
  subst hl0
  refine ⟨c + 1, ?_⟩
  refine hx_run3 (post := post) (h := h) f (by omega) hf c 0 L a (by omega) hH hl ?_
  rw [← List.range_eq_range']
  exact hp
theorem hg_run_num (c : Nat) (f : Nat → hg_T) : (hg_run c f).map hg_num = (List.range c).map (fun k => hg_num (f k)) := by
  unfold hg_run
  rw [List.map_map]
  rfl
theorem hx_runT {post : SX → Prop} {fr st l : Int32} {c : Nat} {h a : Nat → Int32} (M : List hg_T) (f : Nat → hg_T) (hl0 : l = nI M.length) (hH : hg_H a (M.map hg_num)) (hl : M.length + c ≤ 720) (hf : ∀ j, j < c → fr - nI (j + 1) * st = nI (hg_num (f j))) (hp : ∀ a', hg_H a' ((M ++ hg_run c f).map hg_num) → post (nI (M ++ hg_run c f).length, h, a')) : wpX_listRun post (l, h, a) fr st (nI c) := by
  have e : (M.map hg_num).length = M.length := List.length_map _
  refine hx_run (L := M.map hg_num) (fun k => hg_num (f k)) (by rw [e]; exact hl0) hH (by rw [e]; exact hl) hf ?_
  intro a' H'
  rw [← hg_run_num, ← List.map_append] at H'
  have h2 := hp a' H'
  rw [List.length_append, hg_run_len] at h2
  rw [e]
  exact h2
theorem hg_numI (x y z : Nat) : nI x * 1 + nI y * 32 + nI z * 1024 = nI (hg_num (x, y, z)) := by
  show nI x * nI 1 + nI y * nI 32 + nI z * nI 1024 = _
  rw [pk_mul, pk_mul, pk_mul, nI_add, nI_add]
  congr 1
  unfold hg_num
  dsimp only
  omega
theorem hx_num {post : Int32 → Prop} {l : Int32} {h a : Nat → Int32} {x y z : Nat} (H : hg_Hp h x y z) (hp : post (nI (hg_num (x, y, z)))) : wpX_numberNow post (l, h, a) := by
  show post (h 0 * 1 + h 1 * 32 + h 2 * 1024)
  rw [H.1, H.2.1, H.2.2, hg_numI]
  exact hp
theorem hg_sub {N m s : Nat} (h : m * s ≤ N) : nI N - nI m * nI s = nI (N - m * s) := by rw [pk_mul, pk_sub h]
theorem hg_stepI {N s c : Nat} {f : Nat → hg_T} (h : ∀ j, j < c → (j + 1) * s ≤ N ∧ N - (j + 1) * s = hg_num (f j)) : ∀ j, j < c → nI N - nI (j + 1) * nI s = nI (hg_num (f j)) := by
  intro j hj
  rw [hg_sub (h j hj).1, (h j hj).2]
theorem hg_num_mk (x y z : Nat) : hg_num (x, y, z) = x + 32 * y + 1024 * z := rfl
/-- the three runs of one heap each -/
def hg_L3 (m x y z : Nat) : List hg_T := hg_run (min x m) (fun k => (x - (k + 1), y, z)) ++ hg_run (min y m) (fun k => (x, y - (k + 1), z)) ++ hg_run (min z m) (fun k => (x, y, z - (k + 1)))
theorem hx_one {post : SX → Prop} {h a : Nat → Int32} {m x y z : Nat} (H : hg_Hp h x y z) (hx : x ≤ 15) (hy : y ≤ 15) (hz : z ≤ 15) (hm : m ≤ 15) (hp : ∀ a', hg_H a' ((hg_L3 m x y z).map hg_num) → post (nI (hg_L3 m x y z).length, h, a')) : wpX_listOneHeapMoves post (0, h, a) (nI m) := by
  unfold wpX_listOneHeapMoves
  dsimp only
  refine hx_num H ?_
  rw [H.1, H.2.1, H.2.2]
  refine hx_lesser (by omega) (by omega) ?_
  refine hx_lesser (by omega) (by omega) ?_
  refine hx_lesser (by omega) (by omega) ?_
  refine hx_runT [] (fun k => (x - (k + 1), y, z)) rfl (hg_H_0 _) (by show 0 + _ ≤ 720; omega) (hg_stepI (s := 1) (fun j hj => by rw [hg_num_mk, hg_num_mk]; omega)) (fun a1 H1 => ?_)
  rw [List.nil_append] at H1 ⊢
  refine hx_runT (hg_run (min x m) (fun k => (x - (k + 1), y, z))) (fun k => (x, y - (k + 1), z)) rfl H1 (by rw [hg_run_len]; omega) (hg_stepI (s := 32) (fun j hj => by rw [hg_num_mk, hg_num_mk]; omega)) (fun a2 H2 => ?_)
  refine hx_runT (hg_run (min x m) (fun k => (x - (k + 1), y, z)) ++ hg_run (min y m) (fun k => (x, y - (k + 1), z))) (fun k => (x, y, z - (k + 1))) rfl H2 (by rw [List.length_append, hg_run_len, hg_run_len]; omega) (hg_stepI (s := 1024) (fun j hj => by rw [hg_num_mk, hg_num_mk]; omega)) (fun a3 H3 => ?_)
  exact hp a3 H3
theorem hg_L3_len {m x y z : Nat} : (hg_L3 m x y z).length = min x m + min y m + min z m := by
  unfold hg_L3
  rw [List.length_append, List.length_append, hg_run_len, hg_run_len, hg_run_len]
theorem hg_flen {n b : Nat} {f : Nat → List hg_T} (h : ∀ k, (f k).length = b) : ((List.range n).flatMap f).length = n * b := by
  induction n with
  | zero => rw [Nat.zero_mul]; rfl
  | succ n ih => rw [List.range_succ, List.flatMap_append, List.flatMap_singleton, List.length_append, ih, h, Nat.succ_mul]
def hg_G1 (x y z : Nat) : Nat → List hg_T := fun k => hg_run y (fun m => (x - (k + 1), y - (m + 1), z)) ++ hg_run z (fun m => (x - (k + 1), y, z - (m + 1)))
def hg_G2 (x y z : Nat) : Nat → List hg_T := fun k => hg_run z (fun m => (x, y - (k + 1), z - (m + 1)))
theorem hg_G1_len (x y z k : Nat) : (hg_G1 x y z k).length = y + z := by
  unfold hg_G1
  rw [List.length_append, hg_run_len, hg_run_len]
theorem hg_G2_len (x y z k : Nat) : (hg_G2 x y z k).length = z := by
  unfold hg_G2
  rw [hg_run_len]
theorem hg_fs_s (n : Nat) (f : Nat → List hg_T) : (List.range (n + 1)).flatMap f = (List.range n).flatMap f ++ f n := by
  rw [List.range_succ, List.flatMap_append, List.flatMap_singleton]
theorem hx_two60 {post : SX → Prop} {h : Nat → Int32} {x y z : Nat} (H : hg_Hp h x y z) (hx : x ≤ 15) (hy : y ≤ 15) (hz : z ≤ 15) (M : List hg_T) (hM : M.length ≤ 495) (hp : ∀ a', hg_H a' ((M ++ (List.range y).flatMap (hg_G2 x y z)).map hg_num) → post (nI (M ++ (List.range y).flatMap (hg_G2 x y z)).length, h, a')) : ∀ (d k : Nat) (a : Nat → Int32), k + d = y → hg_H a ((M ++ (List.range k).flatMap (hg_G2 x y z)).map hg_num) → wX_listTwoHeapMoves_60 post (nI (hg_num (x, y, z))) (d + 1) (nI (k + 1)) (nI (M ++ (List.range k).flatMap (hg_G2 x y z)).length) h a
  | 0, k, a, hk, hH => by
    have e : k = y := by omega
    subst e
    have hlt : h 1 < nI (k + 1) := by rw [H.2.1]; exact nI_lt (by omega) (by omega)
    exact br_t hlt (hp a hH)
  | d + 1, k, a, hk, hH => by
    have hlt : ¬ h 1 < nI (k + 1) := by rw [H.2.1]; exact nI_nlt (by omega) (by omega)
    refine br_f hlt ?_
    rw [H.2.2]
    have hb : (k + 1) * z ≤ 15 * 15 := Nat.mul_le_mul (by omega) hz
    rw [Nat.succ_mul] at hb
    have e1 : nI (hg_num (x, y, z)) - nI (k + 1) * 32 = nI (hg_num (x, y, z) - (k + 1) * 32) := hg_sub (s := 32) (by rw [hg_num_mk]; omega)
    rw [e1]
    refine hx_runT (M ++ (List.range k).flatMap (hg_G2 x y z)) (fun m => (x, y - (k + 1), z - (m + 1))) rfl hH (by rw [List.length_append, hg_flen (hg_G2_len x y z)]; omega) (hg_stepI (s := 1024) (fun j hj => by rw [hg_num_mk, hg_num_mk]; omega)) (fun a1 H1 => ?_)
    refine nm_r (nI_1 _) ?_
    have ih := hx_two60 H hx hy hz M hM hp d (k + 1) a1 (by omega) (by rw [hg_fs_s, ← List.append_assoc]; exact H1)
    rw [hg_fs_s, ← List.append_assoc] at ih
    exact ih
theorem hx_two7 {post : SX → Prop} {h : Nat → Int32} {x y z : Nat} (H : hg_Hp h x y z) (hx : x ≤ 15) (hy : y ≤ 15) (hz : z ≤ 15) (M : List hg_T) (hM : M.length ≤ 45) (hp : ∀ a', hg_H a' ((M ++ (List.range x).flatMap (hg_G1 x y z)).map hg_num) → ∃ n60 : Nat, wX_listTwoHeapMoves_60 post (nI (hg_num (x, y, z))) n60 1 (nI (M ++ (List.range x).flatMap (hg_G1 x y z)).length) h a') : ∀ (d k : Nat) (a : Nat → Int32), k + d = x → hg_H a ((M ++ (List.range k).flatMap (hg_G1 x y z)).map hg_num) → wX_listTwoHeapMoves_7 post (nI (hg_num (x, y, z))) (d + 1) (nI (k + 1)) (nI (M ++ (List.range k).flatMap (hg_G1 x y z)).length) h a
  | 0, k, a, hk, hH => by
    have e : k = x := by omega
    subst e
    have hlt : h 0 < nI (k + 1) := by rw [H.1]; exact nI_lt (by omega) (by omega)
    exact br_t hlt (hp a hH)
  | d + 1, k, a, hk, hH => by
    have hlt : ¬ h 0 < nI (k + 1) := by rw [H.1]; exact nI_nlt (by omega) (by omega)
    refine br_f hlt ?_
    rw [H.2.1]
    have hb : (k + 1) * (y + z) ≤ 15 * 30 := Nat.mul_le_mul (by omega) (by omega)
    rw [Nat.succ_mul] at hb
    have e1 : nI (hg_num (x, y, z)) - nI (k + 1) * 1 = nI (hg_num (x, y, z) - (k + 1) * 1) := hg_sub (s := 1) (by rw [hg_num_mk]; omega)
    rw [e1]
    refine hx_runT (M ++ (List.range k).flatMap (hg_G1 x y z)) (fun m => (x - (k + 1), y - (m + 1), z)) rfl hH (by rw [List.length_append, hg_flen (hg_G1_len x y z)]; omega) (hg_stepI (s := 32) (fun j hj => by rw [hg_num_mk, hg_num_mk]; omega)) (fun a1 H1 => ?_)
    dsimp only
    rw [H.2.2]
    refine hx_runT (M ++ (List.range k).flatMap (hg_G1 x y z) ++ hg_run y (fun m => (x - (k + 1), y - (m + 1), z))) (fun m => (x - (k + 1), y, z - (m + 1))) rfl H1 (by rw [List.length_append, List.length_append, hg_run_len, hg_flen (hg_G1_len x y z)]; omega) (hg_stepI (s := 1024) (fun j hj => by rw [hg_num_mk, hg_num_mk]; omega)) (fun a2 H2 => ?_)
    refine nm_r (nI_1 _) ?_
    have e2 : M ++ (List.range (k + 1)).flatMap (hg_G1 x y z) = M ++ (List.range k).flatMap (hg_G1 x y z) ++ hg_run y (fun m => (x - (k + 1), y - (m + 1), z)) ++ hg_run z (fun m => (x - (k + 1), y, z - (m + 1))) := by
      rw [hg_fs_s, List.append_assoc, List.append_assoc]
      rfl
    have ih := hx_two7 H hx hy hz M hM hp d (k + 1) a2 (by omega) (by rw [e2]; exact H2)
    rw [e2] at ih
    exact ih
theorem hx_two {post : SX → Prop} {l : Int32} {h a : Nat → Int32} {x y z : Nat} (H : hg_Hp h x y z) (hx : x ≤ 15) (hy : y ≤ 15) (hz : z ≤ 15) (M : List hg_T) (hM : M.length ≤ 45) (hl : l = nI M.length) (hH : hg_H a (M.map hg_num)) (hp : ∀ a', hg_H a' ((M ++ (List.range x).flatMap (hg_G1 x y z) ++ (List.range y).flatMap (hg_G2 x y z)).map hg_num) → post (nI (M ++ (List.range x).flatMap (hg_G1 x y z) ++ (List.range y).flatMap (hg_G2 x y z)).length, h, a')) : wpX_listTwoHeapMoves post (l, h, a) := by
  subst hl
  unfold wpX_listTwoHeapMoves
  dsimp only
  refine hx_num H ⟨x + 1, ?_⟩
  have h7 := hx_two7 (post := post) H hx hy hz M hM (fun a' H' => ⟨y + 1, by
    have hb : x * (y + z) ≤ 15 * 30 := Nat.mul_le_mul hx (by omega)
    have h6 := hx_two60 (post := post) H hx hy hz (M ++ (List.range x).flatMap (hg_G1 x y z)) (by rw [List.length_append, hg_flen (hg_G1_len x y z)]; omega) hp y 0 a' (by omega) (by rw [show (List.range 0).flatMap (hg_G2 x y z) = [] from rfl, List.append_nil]; exact H')
    rw [show (List.range 0).flatMap (hg_G2 x y z) = [] from rfl, List.append_nil] at h6
    exact h6⟩) x 0 a (by omega) (by rw [show (List.range 0).flatMap (hg_G1 x y z) = [] from rfl, List.append_nil]; exact hH)
  rw [show (List.range 0).flatMap (hg_G1 x y z) = [] from rfl, List.append_nil] at h7
  exact h7
theorem hx_stair {post : SX → Prop} {h a : Nat → Int32} {x y z : Nat} (H : hg_Hp h x y z) (hx : x ≤ 15) (hy : y ≤ 15) (hz : z ≤ 15) (hp : ∀ a', hg_H a' ((hg_LX 3 x y z).map hg_num) → post (nI (hg_LX 3 x y z).length, h, a')) : wpX_listStaircaseMoves post (0, h, a) := by
  unfold wpX_listStaircaseMoves
  dsimp only
  refine hx_num H ?_
  rw [H.1]
  refine hx_runT [] (fun k => (x - (k + 1), y, z)) rfl (hg_H_0 _) (by show 0 + _ ≤ 720; omega) (hg_stepI (s := 1) (fun j hj => by rw [hg_num_mk, hg_num_mk]; omega)) (fun a1 H1 => ?_)
  dsimp only
  rw [List.nil_append] at H1 ⊢
  rw [H.2.1]
  refine hx_runT (hg_run x (fun k => (x - (k + 1), y, z))) (fun k => (x + (k + 1), y - (k + 1), z)) rfl H1 (by rw [hg_run_len]; omega) (hg_stepI (s := 31) (fun j hj => by rw [hg_num_mk, hg_num_mk]; omega)) (fun a2 H2 => ?_)
  dsimp only
  rw [H.2.2]
  refine hx_runT (hg_run x (fun k => (x - (k + 1), y, z)) ++ hg_run y (fun k => (x + (k + 1), y - (k + 1), z))) (fun k => (x, y + (k + 1), z - (k + 1))) rfl H2 (by rw [List.length_append, hg_run_len, hg_run_len]; omega) (hg_stepI (s := 992) (fun j hj => by rw [hg_num_mk, hg_num_mk]; omega)) (fun a3 H3 => ?_)
  exact hp a3 H3
theorem hx_wyth {post : SX → Prop} {h a : Nat → Int32} {x y z : Nat} (H : hg_Hp h x y z) (hx : x ≤ 15) (hy : y ≤ 15) (hz : z ≤ 15) (hp : ∀ a', hg_H a' ((hg_LX 4 x y z).map hg_num) → post (nI (hg_LX 4 x y z).length, h, a')) : wpX_listWythoffMoves post (0, h, a) := by
  unfold wpX_listWythoffMoves
  dsimp only
  refine hx_num H ?_
  rw [H.1, H.2.1]
  refine hx_lesser (by omega) (by omega) ?_
  refine hx_runT [] (fun k => (x - (k + 1), y, z)) rfl (hg_H_0 _) (by show 0 + _ ≤ 720; omega) (hg_stepI (s := 1) (fun j hj => by rw [hg_num_mk, hg_num_mk]; omega)) (fun a1 H1 => ?_)
  dsimp only
  rw [List.nil_append] at H1 ⊢
  rw [H.2.1]
  refine hx_runT (hg_run x (fun k => (x - (k + 1), y, z))) (fun k => (x, y - (k + 1), z)) rfl H1 (by rw [hg_run_len]; omega) (hg_stepI (s := 32) (fun j hj => by rw [hg_num_mk, hg_num_mk]; omega)) (fun a2 H2 => ?_)
  refine hx_runT (hg_run x (fun k => (x - (k + 1), y, z)) ++ hg_run y (fun k => (x, y - (k + 1), z))) (fun k => (x - (k + 1), y - (k + 1), z)) rfl H2 (by rw [List.length_append, hg_run_len, hg_run_len]; omega) (hg_stepI (s := 33) (fun j hj => by rw [hg_num_mk, hg_num_mk]; omega)) (fun a3 H3 => ?_)
  exact hp a3 H3
theorem hx_eucl {post : SX → Prop} {h a : Nat → Int32} {x y z : Nat} (H : hg_Hp h x y z) (hx : x ≤ 15) (hy : y ≤ 15) (hz : z ≤ 15) (hp : ∀ a', hg_H a' ((hg_LX 5 x y z).map hg_num) → post (nI (hg_LX 5 x y z).length, h, a')) : wpX_listEuclidMoves post (0, h, a) := by
  have eL : hg_LX 5 x y z = if x = 0 ∨ y = 0 then [] else hg_run (x / y) (fun k => (x - (k + 1) * y, y, z)) ++ hg_run (y / x) (fun k => (x, y - (k + 1) * x, z)) := rfl
  unfold wpX_listEuclidMoves
  dsimp only
  rw [H.1, H.2.1]
  refine pk_eq x 0 (fun e => ?_) (fun e => ?_)
  · rw [eL, if_pos (Or.inl e)] at hp
    exact hp a (hg_H_0 _)
  · refine pk_eq y 0 (fun e2 => ?_) (fun e2 => ?_)
    · rw [eL, if_pos (Or.inr e2)] at hp
      exact hp a (hg_H_0 _)
    · rw [eL, if_neg (by omega)] at hp
      refine hx_num H ?_
      have d1 : x / y ≤ x := Nat.div_le_self x y
      have d2 : y / x ≤ y := Nat.div_le_self y x
      have s1 : nI y * 1 = nI y := by
        have := pk_mul y 1
        rw [Nat.mul_one] at this
        exact this
      have s2 : nI x * 32 = nI (x * 32) := pk_mul x 32
      refine ⟨nI_ne0 (by omega) (by omega), ?_⟩
      rw [s1, pk_div (by omega) (by omega) (by omega)]
      refine hx_runT [] (fun k => (x - (k + 1) * y, y, z)) rfl (hg_H_0 _) (by show 0 + _ ≤ 720; omega) (hg_stepI (s := y) (fun j hj => by
        have := hg_kdiv hj
        rw [hg_num_mk, hg_num_mk]
        omega)) (fun a1 H1 => ?_)
      dsimp only
      rw [List.nil_append] at H1 ⊢
      rw [H.1, H.2.1]
      refine ⟨nI_ne0 (by omega) (by omega), ?_⟩
      rw [s2, pk_div (by omega) (by omega) (by omega)]
      refine hx_runT (hg_run (x / y) (fun k => (x - (k + 1) * y, y, z))) (fun k => (x, y - (k + 1) * x, z)) rfl H1 (by rw [hg_run_len]; omega) (hg_stepI (s := x * 32) (fun j hj => by
        have := hg_kdiv hj
        have e3 : (j + 1) * (x * 32) = 32 * ((j + 1) * x) := by rw [← Nat.mul_assoc, Nat.mul_comm]
        rw [hg_num_mk, hg_num_mk, e3]
        omega)) (fun a2 H2 => ?_)
      exact hp a2 H2
theorem hg_neg1 (a : Int32) : 0 - a * (-1) = a := by
  rw [Int32.mul_neg, Int32.mul_one, Int32.zero_sub, Int32.neg_neg]
theorem hx_fibm {post : SX → Prop} {h a : Nat → Int32} {x y z : Nat} (H : hg_Hp h x y z) (hx : x ≤ 15) (hy : y ≤ 15) (hz : z ≤ 15) (hp : ∀ a', hg_H a' (hg_N6 (hg_pl x y) z) → post (nI (hg_N6 (hg_pl x y) z).length, h, a')) : wpX_listFibonacciMoves post (0, h, a) := by
  unfold wpX_listFibonacciMoves
  dsimp only
  refine hx_pile H hx hy ?_
  have hpl : hg_pl x y ≤ 60 := by unfold hg_pl; omega
  rw [H.2.2]
  refine hx_lesser (by omega) (by omega) ?_
  refine hx_run (L := []) (fun k => k + 1) rfl (hg_H_0 _) (by show 0 + _ ≤ 720; omega) (fun j hj => hg_neg1 _) (fun a1 H1 => ?_)
  have h2 := hp a1 H1
  have e : (hg_N6 (hg_pl x y) z).length = 0 + min (hg_pl x y) z := by
    unfold hg_N6
    rw [List.length_map, List.length_range, Nat.zero_add]
  rw [e] at h2
  exact h2
/-- the numbers of all moves, as X lists them -/
def hg_XN (g x y z : Nat) : List Nat := if g = 6 then hg_N6 (hg_pl x y) z else (hg_LX g x y z).map hg_num
theorem hg_XN_6 {g x y z : Nat} (h : g ≠ 6) : hg_XN g x y z = (hg_LX g x y z).map hg_num := if_neg h
theorem hg_LX_1 {g x y z : Nat} (h2 : g ≠ 2) (h3 : g ≠ 3) (h4 : g ≠ 4) (h5 : g ≠ 5) : hg_LX g x y z = hg_L3 (if g = 7 then 3 else 15) x y z := by
  unfold hg_LX
  rw [if_neg h2, if_neg h3, if_neg h4, if_neg h5]
  rfl
theorem hg_LX_2 {x y z : Nat} (hx : x ≤ 15) (hy : y ≤ 15) (hz : z ≤ 15) : hg_LX 2 x y z = hg_L3 15 x y z ++ (List.range x).flatMap (hg_G1 x y z) ++ (List.range y).flatMap (hg_G2 x y z) := by
  have ex : min x 15 = x := by omega
  have ey : min y 15 = y := by omega
  have ez : min z 15 = z := by omega
  unfold hg_L3
  rw [ex, ey, ez, List.append_assoc _ ((List.range x).flatMap (hg_G1 x y z))]
  rfl
theorem hx_moves {post : SX → Prop} {l : Int32} {h a : Nat → Int32} {g x y z : Nat} (H : hg_Hp h x y z) (hg : g < 8) (hx : x ≤ 15) (hy : y ≤ 15) (hz : z ≤ 15) (hp : ∀ a', hg_H a' (hg_XN g x y z) → post (nI (hg_XN g x y z).length, h, a')) : wpX_listMoves post (l, h, a) (nI g) := by
  have hp' : g ≠ 6 → ∀ a', hg_H a' ((hg_LX g x y z).map hg_num) → post (nI (hg_LX g x y z).length, h, a') := by
    intro h6 a' H'
    rw [hg_XN_6 h6] at hp
    have := hp a' H'
    rw [List.length_map] at this
    exact this
  have hc : g = 0 ∨ g = 1 ∨ g = 2 ∨ g = 3 ∨ g = 4 ∨ g = 5 ∨ g = 6 ∨ g = 7 := by omega
  rcases hc with rfl | rfl | rfl | rfl | rfl | rfl | rfl | rfl
  · have hq := hp' (by decide)
    rw [hg_LX_1 (by decide) (by decide) (by decide) (by decide)] at hq
    exact br_t (by decide) (hx_one (m := 15) H hx hy hz (by decide) hq)
  · have hq := hp' (by decide)
    rw [hg_LX_1 (by decide) (by decide) (by decide) (by decide)] at hq
    exact br_t (by decide) (hx_one (m := 15) H hx hy hz (by decide) hq)
  · have hq := hp' (by decide)
    rw [hg_LX_2 hx hy hz] at hq
    refine br_f (by decide) (br_f (by decide) (br_t rfl (hx_one (m := 15) H hx hy hz (by decide) (fun a1 H1 => ?_))))
    exact hx_two H hx hy hz (hg_L3 15 x y z) (by rw [hg_L3_len]; omega) rfl H1 hq
  · exact br_f (by decide) (br_f (by decide) (br_f (by decide) (br_t rfl (hx_stair H hx hy hz (hp' (by decide))))))
  · exact br_f (by decide) (br_f (by decide) (br_f (by decide) (br_f (by decide) (br_t rfl (hx_wyth H hx hy hz (hp' (by decide)))))))
  · exact br_f (by decide) (br_f (by decide) (br_f (by decide) (br_f (by decide) (br_f (by decide) (br_t rfl (hx_eucl H hx hy hz (hp' (by decide))))))))
  · exact br_f (by decide) (br_f (by decide) (br_f (by decide) (br_f (by decide) (br_f (by decide) (br_f (by decide) (br_t rfl (hx_fibm H hx hy hz hp)))))))
  · have hq := hp' (by decide)
    rw [hg_LX_1 (by decide) (by decide) (by decide) (by decide)] at hq
    exact br_f (by decide) (br_f (by decide) (br_f (by decide) (br_f (by decide) (br_f (by decide) (br_f (by decide) (br_f (by decide) (br_t rfl (hx_one (m := 3) H hx hy hz (by decide) hq))))))))
