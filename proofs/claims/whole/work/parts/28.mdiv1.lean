/-! ===== division: the guess ===== -/
theorem gs_le {R w x y : Nat} (hw : w ≠ 0) (hR : R < w * 32768) (h1 : nd w = 1 → x = 0 ∧ y = 0) (h2 : 2 ≤ nd w → x = dg R (nd w - 2) ∧ y = dg w (nd w - 2)) :
    ((dg R (nd w) * 32768 + dg R (nd w - 1)) * 32768 + x) / (dg w (nd w - 1) * 32768 + y + 1) * w ≤ R := by
  have h0 : nd w ≠ 0 := fun e => hw (nd_z.mp e)
  have hRn : R / 32768 ^ (nd w + 1) = 0 := by
    apply Nat.div_eq_of_lt
    rw [nn_succ]
    exact Nat.lt_trans hR (Nat.mul_lt_mul_of_pos_right (nd_lt w) (by decide))
  have a1 := dv_s R (nd w)
  rw [hRn] at a1
  have a2 := dv_s R (nd w - 1)
  have b2 := dv_s w (nd w - 1)
  rw [show nd w - 1 + 1 = nd w by omega] at a2 b2
  rw [dv_nd] at b2
  have key : ∀ (C A P : Nat), 0 < P → A * P ≤ R → w < C * P → A / C * w ≤ R := by
    intro C A P hP hA hC
    have c0 : 0 < C := by
      rcases Nat.eq_zero_or_pos C with e | e
      · rw [e] at hC; omega
      · exact e
    have g1 := Nat.div_mul_le_self A C
    have g2 := Nat.mul_le_mul_right P g1
    have g3 := Nat.mul_le_mul_left (A / C) (Nat.le_of_lt hC)
    rw [← Nat.mul_assoc] at g3
    omega
  by_cases hn : nd w = 1
  · obtain ⟨rfl, rfl⟩ := h1 hn
    rw [hn] at a1 a2 b2 ⊢
    simp at a2 b2
    have g1 := Nat.div_mul_le_self ((dg R 1 * 32768 + dg R (1 - 1)) * 32768 + 0) (dg w (1 - 1) * 32768 + 0 + 1)
    simp only [Nat.sub_self, Nat.add_zero] at g1 ⊢
    generalize (dg R 1 * 32768 + dg R 0) * 32768 / (dg w 0 * 32768 + 1) = g at *
    rw [Nat.mul_add, Nat.mul_one, ← Nat.mul_assoc, ← b2] at g1
    have e : dg R 1 * 32768 + dg R 0 = R := by
      have : R / 32768 = dg R 1 := by simpa using a1
      rw [this] at a2
      exact a2.symm
    rw [e] at g1
    clear a1 a2 b2 e hR hRn key
    generalize g * w = z at *
    omega
  · obtain ⟨rfl, rfl⟩ := h2 (by omega)
    have a3 := dv_s R (nd w - 2)
    have b3 := dv_s w (nd w - 2)
    rw [show nd w - 2 + 1 = nd w - 1 by omega] at a3 b3
    refine key _ _ (32768 ^ (nd w - 2)) (nn_pos _) ?_ ?_
    · have e : (dg R (nd w) * 32768 + dg R (nd w - 1)) * 32768 + dg R (nd w - 2) = R / 32768 ^ (nd w - 2) := by omega
      rw [e]
      exact Nat.div_mul_le_self _ _
    · have e : dg w (nd w - 1) * 32768 + dg w (nd w - 2) = w / 32768 ^ (nd w - 2) := by omega
      rw [e]
      have g1 := Nat.div_add_mod w (32768 ^ (nd w - 2))
      have g2 := Nat.mod_lt w (nn_pos (nd w - 2))
      rw [Nat.add_mul, Nat.one_mul, Nat.mul_comm (w / _)]
      omega
/-- rows q and r of the reference have changed, and nothing else -/
def Fr2 (M M' : Mem) (q r : Nat) : Prop := (∀ o, o ≠ 51 → o ≠ 52 → M' o = M o) ∧ (∀ s, s ≠ q → s ≠ r → M' 52 s = M 52 s) ∧ ∀ j, (j < 420 * q ∨ 420 * q + 420 ≤ j) → (j < 420 * r ∨ 420 * r + 420 ≤ j) → M' 51 j = M 51 j
theorem Fr2.rf (M : Mem) (q r : Nat) : Fr2 M M q r := ⟨fun _ _ _ => rfl, fun _ _ _ => rfl, fun _ _ _ => rfl⟩
theorem Fr2.q {M M1 M2 : Mem} {q r : Nat} (h : Fr2 M M1 q r) (h2 : FrM M1 M2 q) : Fr2 M M2 q r := ⟨fun o a b => (h2.1 o a b).trans (h.1 o a b), fun s a b => (h2.2.1 s a).trans (h.2.1 s a b), fun j a b => (h2.2.2 j a).trans (h.2.2 j a b)⟩
theorem Fr2.r {M M1 M2 : Mem} {q r : Nat} (h : Fr2 M M1 q r) (h2 : FrM M1 M2 r) : Fr2 M M2 q r := ⟨fun o a b => (h2.1 o a b).trans (h.1 o a b), fun s a b => (h2.2.1 s b).trans (h.2.1 s a b), fun j a b => (h2.2.2 j b).trans (h.2.2 j a b)⟩
theorem Fr2.keep {M M' : Mem} {q r s v : Nat} (h : Fr2 M M' q r) (h1 : s ≠ q) (h2 : s ≠ r) (hv : MH M s v) (hn : nd v ≤ 420) : MH M' s v := by
  refine ⟨(h.2.1 s h1 h2).trans hv.1, fun i hi => ?_⟩
  show M' 51 (420 * s + i) = _
  rw [h.2.2 _ (by omega) (by omega)]
  exact hv.2 i hi
theorem atR_eq {M : Mem} {s v : Nat} {i : Int} (h : MH M s v) : (if i < 0 ∨ ((nd v : Nat) : Int) ≤ i then 0 else M 51 (420 * s + i.toNat)) = dgZ v i := by
  unfold dgZ
  by_cases h0 : i < 0
  · rw [if_pos (Or.inl h0), if_pos h0]
  · rw [if_neg h0]
    by_cases h1 : ((nd v : Nat) : Int) ≤ i
    · rw [if_pos (Or.inr h1), dg_z (by omega)]
      rfl
    · rw [if_neg (by omega)]
      exact h.2 i.toNat (by omega)
/-- the variables of divide -/
abbrev dvL (a b q r n wd : Nat) (bl i : Int) (t : Lc) : Lc := some (.inr (.inr 50)) :: some (.inl (a : Int)) :: some (.inl (b : Int)) :: some (.inl (q : Int)) :: some (.inl (r : Int)) :: some (.inl (n : Int)) :: some (.inl (wd : Int)) :: some (.inr (.inl bl)) :: none :: some (.inl i) :: t
/-- divide(a, b, q, r) -/
def c_divide : Call := ⟨Nat × Nat × Nat × Nat × Nat × Nat, 5, (fun (a, b, q, r, v, w) vs M => vs = [.inr (.inr 50), .inl (a : Int), .inl (b : Int), .inl (q : Int), .inl (r : Int)] ∧ a < 37 ∧ b < 37 ∧ q < 37 ∧ r < 37 ∧ a ≠ q ∧ b ≠ q ∧ a ≠ r ∧ b ≠ r ∧ q ≠ r ∧ MH M a v ∧ nd v ≤ 400 ∧ MH M b w ∧ nd w ≤ 400 ∧ w ≠ 0), .inl (fun (_, _, q, r, v, w) _ M M' => MH M' q (v / w) ∧ MH M' r (v % w) ∧ Fr2 M M' q r)⟩
abbrev P_div : Pool := (fdX8, icX8, lcX8, [(76, some 8, c_atR), (80, some 8, c_put), (85, some 8, c_fix), (91, some 8, c_compared)])
