section
variable {fd : Int32} {h wn vl tk lm nb : Nat → Int32}
theorem hg_mulI (a b : Nat) : nI (a * b) + nI b = nI ((a + 1) * b) := by rw [nI_add, Nat.succ_mul]
theorem hg_div_hi {x y : Nat} (hy : 0 < y) : x < (x / y + 1) * y := by
  have := Nat.div_add_mod x y
  have h2 := Nat.mod_lt x hy
  rw [Nat.succ_mul, Nat.mul_comm (x / y) y]
  omega
theorem hy_mult_gt {post : SY → Prop} {xs ys zs : Nat → Int32} {x y z : Nat} (hx : x ≤ 45) (h0 : 0 < y) (hyx : y < x) (hp : ∀ xs' ys' zs', hg_H3 xs' ys' zs' (hg_run (x / y) (fun k => (x - (k + 1) * y, y, z))) → post (nI (hg_run (x / y) (fun k => (x - (k + 1) * y, y, z))).length, fd, h, xs', ys', zs', wn, vl, tk, lm, nb)) : ∃ n37 : Nat, wY_listMultiples_37 post (nI x) (nI y) (nI z) (nI y) (nI x) n37 (nI y) 0 fd h xs ys zs wn vl tk lm nb := by
  have hd : x / y ≤ x := Nat.div_le_self x y
  have hi := hg_div_hi (x := x) h0
  have hm := hg_kdiv (k := x / y - 1) (x := x) (y := y)
  have e : hg_run (x / y) (fun k => (x - (k + 1) * y, y, z)) = (List.range (x / y)).flatMap (fun k => [(x - (k + 1) * y, y, z)]) := (hg_fs (fun k => (x - (k + 1) * y, y, z)) _).symm
  have hb : (x / y + 1) * y ≤ 46 * 45 := Nat.mul_le_mul (by omega) (by omega)
  have l37 := hy_loop0 (fun n k cn xs ys zs => wY_listMultiples_37 post (nI x) (nI y) (nI z) (nI y) (nI x) n k cn fd h xs ys zs wn vl tk lm nb) (fun cn xs ys zs => post (cn, fd, h, xs, ys, zs, wn, vl, tk, lm, nb)) (x / y) 1 (fun k => nI ((k + 1) * y)) (fun k => [(x - (k + 1) * y, y, z)]) (fun _ _ => Nat.le_refl 1)
    (fun n cn xs ys zs e => br_t (nI_lt hi (by omega)) e)
    (fun n k L xs ys zs hk hl hH hn => by
      have hk1 := hg_kdiv hk
      refine br_f (nI_nlt hk1 (by omega)) (br_f (nI_nlt (by omega) (by omega)) (hy_leave L (x - (k + 1) * y, y, z) rfl hH (by omega) (pk_sub hk1) rfl rfl (fun xs' ys' zs' H' => ?_)))
      exact br_t (nI_lt hyx (by omega)) (nm_r (hg_mulI (k + 1) y) (hn xs' ys' zs' H')))
    [] xs ys zs (hg_H3_0 _ _ _) (by show 0 + _ ≤ 800; omega)
  have hq := l37 (by
    intro xs' ys' zs' H'
    rw [List.nil_append, ← e] at H' ⊢
    exact hp xs' ys' zs' H')
  rw [show (0 + 1) * y = y from by omega] at hq
  exact hq
theorem hy_mult_lt {post : SY → Prop} {xs ys zs : Nat → Int32} {x y z : Nat} (hy : y ≤ 45) (h0 : 0 < x) (hxy : x < y) (hp : ∀ xs' ys' zs', hg_H3 xs' ys' zs' (hg_run (y / x) (fun k => (x, y - (k + 1) * x, z))) → post (nI (hg_run (y / x) (fun k => (x, y - (k + 1) * x, z))).length, fd, h, xs', ys', zs', wn, vl, tk, lm, nb)) : ∃ n37 : Nat, wY_listMultiples_37 post (nI x) (nI y) (nI z) (nI x) (nI y) n37 (nI x) 0 fd h xs ys zs wn vl tk lm nb := by
  have hd : y / x ≤ y := Nat.div_le_self y x
  have hi := hg_div_hi (x := y) h0
  have e : hg_run (y / x) (fun k => (x, y - (k + 1) * x, z)) = (List.range (y / x)).flatMap (fun k => [(x, y - (k + 1) * x, z)]) := (hg_fs (fun k => (x, y - (k + 1) * x, z)) _).symm
  have hb : (y / x + 1) * x ≤ 46 * 45 := Nat.mul_le_mul (by omega) (by omega)
  have l37 := hy_loop0 (fun n k cn xs ys zs => wY_listMultiples_37 post (nI x) (nI y) (nI z) (nI x) (nI y) n k cn fd h xs ys zs wn vl tk lm nb) (fun cn xs ys zs => post (cn, fd, h, xs, ys, zs, wn, vl, tk, lm, nb)) (y / x) 1 (fun k => nI ((k + 1) * x)) (fun k => [(x, y - (k + 1) * x, z)]) (fun _ _ => Nat.le_refl 1)
    (fun n cn xs ys zs e => br_t (nI_lt hi (by omega)) e)
    (fun n k L xs ys zs hk hl hH hn => by
      have hk1 := hg_kdiv hk
      refine br_f (nI_nlt hk1 (by omega)) (br_t (nI_lt hxy (by omega)) (br_f (nI_nlt (by omega) (by omega)) (hy_leave L (x, y - (k + 1) * x, z) rfl hH (by omega) rfl (pk_sub hk1) rfl (fun xs' ys' zs' H' => ?_))))
      exact nm_r (hg_mulI (k + 1) x) (hn xs' ys' zs' H'))
    [] xs ys zs (hg_H3_0 _ _ _) (by show 0 + _ ≤ 800; omega)
  have hq := l37 (by
    intro xs' ys' zs' H'
    rw [List.nil_append, ← e] at H' ⊢
    exact hp xs' ys' zs' H')
  rw [show (0 + 1) * x = x from by omega] at hq
  exact hq
theorem hy_mult_eq {post : SY → Prop} {xs ys zs : Nat → Int32} {x z : Nat} (hx : x ≤ 45) (h0 : 0 < x) (hp : ∀ xs' ys' zs', hg_H3 xs' ys' zs' [(x - x, x, z), (x, x - x, z)] → post (nI 2, fd, h, xs', ys', zs', wn, vl, tk, lm, nb)) : ∃ n37 : Nat, wY_listMultiples_37 post (nI x) (nI x) (nI z) (nI x) (nI x) n37 (nI x) 0 fd h xs ys zs wn vl tk lm nb := by
  refine ⟨2, br_f (nI_nlt (Nat.le_refl x) (by omega)) (br_f (nI_nlt (Nat.le_refl x) (by omega)) ?_)⟩
  refine hy_leave [] (x - x, x, z) rfl (hg_H3_0 _ _ _) (by decide) (pk_sub (Nat.le_refl x)) rfl rfl (fun xs1 ys1 zs1 H1 => ?_)
  refine br_f (nI_nlt (Nat.le_refl x) (by omega)) ?_
  refine hy_leave [(x - x, x, z)] (x, x - x, z) rfl H1 (by decide : 1 < 800) rfl (pk_sub (Nat.le_refl x)) rfl (fun xs2 ys2 zs2 H2 => ?_)
  refine nm_r (nI_add x x) ?_
  exact br_t (nI_lt (by omega) (by omega)) (hp xs2 ys2 zs2 H2)
theorem hy_mult {post : SY → Prop} {xs ys zs : Nat → Int32} {x y z : Nat} (hx : x ≤ 45) (hy : y ≤ 30) (hz : z ≤ 15) (hp : ∀ xs' ys' zs', hg_H3 xs' ys' zs' (hg_LX 5 x y z) → post (nI (hg_LX 5 x y z).length, fd, h, xs', ys', zs', wn, vl, tk, lm, nb)) : wpY_listMultiples post (0, fd, h, xs, ys, zs, wn, vl, tk, lm, nb) (nI x) (nI y) (nI z) := by
  have eL : hg_LX 5 x y z = if x = 0 ∨ y = 0 then [] else hg_run (x / y) (fun k => (x - (k + 1) * y, y, z)) ++ hg_run (y / x) (fun k => (x, y - (k + 1) * x, z)) := rfl
  refine pk_eq x 0 (fun e => ?_) (fun e => ?_)
  · rw [eL, if_pos (Or.inl e)] at hp
    exact hp xs ys zs (hg_H3_0 _ _ _)
  · refine pk_eq y 0 (fun e2 => ?_) (fun e2 => ?_)
    · rw [eL, if_pos (Or.inr e2)] at hp
      exact hp xs ys zs (hg_H3_0 _ _ _)
    · rw [eL, if_neg (by omega)] at hp
      refine pk_le y x (fun h1 => ?_) (fun h1 => ?_)
      · refine br_t (nI_le h1 (by omega)) ?_
        by_cases h2 : y = x
        · subst h2
          have ed : y / y = 1 := Nat.div_self (by omega)
          rw [ed] at hp
          have hp2 : ∀ xs' ys' zs', hg_H3 xs' ys' zs' [(y - (0 + 1) * y, y, z), (y, y - (0 + 1) * y, z)] → post (nI 2, fd, h, xs', ys', zs', wn, vl, tk, lm, nb) := hp
          rw [show (0 + 1) * y = y from by omega] at hp2
          exact hy_mult_eq hx (by omega) hp2
        · have ed : y / x = 0 := Nat.div_eq_of_lt (by omega)
          rw [ed, hg_run_0, List.append_nil] at hp
          exact hy_mult_gt hx (by omega) (by omega) hp
      · refine br_f (nI_ge h1 (by omega)) ?_
        have ed : x / y = 0 := Nat.div_eq_of_lt h1
        rw [ed, hg_run_0, List.nil_append] at hp
        exact hy_mult_lt (by omega) (by omega) h1 hp
theorem hy_list {post : SY → Prop} {cn : Int32} {xs ys zs : Nat → Int32} {g x y z : Nat} (hg : g < 8) (hx : x ≤ 45) (hy : y ≤ 30) (hz : z ≤ 15) (hp : ∀ xs' ys' zs', hg_H3 xs' ys' zs' (hg_LY g x y z) → post (nI (hg_LY g x y z).length, fd, h, xs', ys', zs', wn, vl, tk, lm, nb)) : wpY_list post (cn, fd, h, xs, ys, zs, wn, vl, tk, lm, nb) (nI g) (nI x) (nI y) (nI z) := by
  refine pk_eq g 3 (fun e => ?_) (fun e3 => pk_eq g 4 (fun e => ?_) (fun e4 => pk_eq g 5 (fun e => ?_) (fun e5 => ?_)))
  · subst e
    exact hy_pushes hx hy hz hp
  · subst e
    exact hy_equal hx hy hz hp
  · subst e
    exact hy_mult hx hy hz hp
  · exact hy_singles hg e3 e4 e5 hx hy hz hp
theorem hg_keyI (x y z : Nat) : (nI z * 31 + nI y) * 46 + nI x = nI (hg_key x y z) := by
  show (nI z * nI 31 + nI y) * nI 46 + nI x = _
  rw [pk_mul, nI_add, pk_mul, nI_add]
  rfl
theorem hy_key {post : Int32 → Prop} {cn : Int32} {xs ys zs : Nat → Int32} {A B C : Int32} {x y z : Nat} (eA : A = nI x) (eB : B = nI y) (eC : C = nI z) (hp : post (nI (hg_key x y z))) : wpY_key post (cn, fd, h, xs, ys, zs, wn, vl, tk, lm, nb) A B C := by
  subst eA eB eC
  show post ((nI z * 31 + nI y) * 46 + nI x)
  rw [hg_keyI]
  exact hp
end
