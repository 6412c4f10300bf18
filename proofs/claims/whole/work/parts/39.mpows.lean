/-! ===== powers of small numbers ===== -/
theorem pw_sq (x k : Nat) : x ^ k = x ^ (k % 2) * (x * x) ^ (k / 2) := by
  have e : k = k % 2 + 2 * (k / 2) := by omega
  have : x ^ (2 * (k / 2)) = (x * x) ^ (k / 2) := by rw [Nat.pow_mul, Nat.pow_two]
  rw [← this, ← Nat.pow_add, ← e]
theorem pw_odd {r x k p : Nat} (h : k % 2 = 1) : (r * x % p * (x * x % p) ^ (k / 2)) % p = (r * x ^ k) % p := by
  rw [pw_sq x k, h, Nat.pow_one, Nat.mul_mod, Nat.mod_mod, ← Nat.pow_mod, ← Nat.mul_mod, Nat.mul_assoc]
theorem pw_even {r x k p : Nat} (h : k % 2 = 0) : (r * (x * x % p) ^ (k / 2)) % p = (r * x ^ k) % p := by
  rw [pw_sq x k, h, Nat.pow_zero, Nat.one_mul, Nat.mul_mod, ← Nat.pow_mod, ← Nat.mul_mod]
/-- powers(w, e, p) -/
def c_powers : Call := ⟨Nat × Nat × Nat, 3, (fun (w, e, p) vs _ => vs = [.inl (w : Int), .inl (e : Int), .inl (p : Int)] ∧ w < 2147483648 ∧ e < 2147483648 ∧ p < 2147483648 ∧ 0 < p), .inr (fun (w, e, p) _ M x M' => x = ((w ^ e % p : Nat) : Int) ∧ M' = M)⟩
theorem v_powers (n : Nn) : Ver tX8_powers (fdX8, icX8, lcX8, []) 1 8 n c_powers := by
  rintro ⟨w, e, p⟩ vs M0 ⟨rfl, hw, he, hp, hp0⟩ aw run
  have loop : ∀ (f k R X : Nat), k ≤ f → k < 2147483648 → R < p → X < p → (R * X ^ k) % p = w ^ e % p → aw 14 [some (.inl (w : Int)), some (.inl (e : Int)), some (.inl (p : Int)), some (.inr (.inl (R : Int))), none, some (.inr (.inl (X : Int))), none, some (.inl (k : Int))] [] M0 := by
    intro f
    induction f with
    | zero =>
      intro k R X hk hk2 hR hX he
      obtain rfl : k = 0 := by omega
      refine run 40 [14] _ _ _ _ ?_
      repeat' first | intro h | refine And.intro ?_ ?_
      all_goals first | omega | skip
      refine Or.inl (And.intro ?_ rfl)
      rw [Nat.pow_zero, Nat.mul_one, Nat.mod_eq_of_lt hR] at he
      rw [he]
    | succ f ih =>
      intro k R X hk hk2 hR hX he
      have m1 := Nat.mul_lt_mul'' hR hX
      have m2 := Nat.mul_lt_mul'' hX hX
      have m3 := Nat.mul_le_mul (show p ≤ 2147483648 by omega) (show p ≤ 2147483648 by omega)
      have e1 : (R : Int) * (X : Int) = ((R * X : Nat) : Int) := (Int.natCast_mul _ _).symm
      have e2 : (X : Int) * (X : Int) = ((X * X : Nat) : Int) := (Int.natCast_mul _ _).symm
      have e3 : ((R * X : Nat) : Int) % (p : Int) = ((R * X % p : Nat) : Int) := (Int.natCast_emod _ _).symm
      have e4 : ((X * X : Nat) : Int) % (p : Int) = ((X * X % p : Nat) : Int) := (Int.natCast_emod _ _).symm
      have d1 := Nat.mod_lt (R * X) hp0
      have d2 := Nat.mod_lt (X * X) hp0
      have nx1 : k % 2 = 1 → aw 14 [some (.inl (w : Int)), some (.inl (e : Int)), some (.inl (p : Int)), some (.inr (.inl ((R * X % p : Nat) : Int))), none, some (.inr (.inl ((X * X % p : Nat) : Int))), none, some (.inl ((k / 2 : Nat) : Int))] [] M0 := fun h1 => ih (k / 2) _ _ (by omega) (by omega) d1 d2 (by rw [pw_odd h1]; exact he)
      have nx0 : k % 2 = 0 → 0 < k → aw 14 [some (.inl (w : Int)), some (.inl (e : Int)), some (.inl (p : Int)), some (.inr (.inl (R : Int))), none, some (.inr (.inl ((X * X % p : Nat) : Int))), none, some (.inl ((k / 2 : Nat) : Int))] [] M0 := fun h1 h0 => ih (k / 2) _ _ (by omega) (by omega) hR d2 (by rw [pw_even h1]; exact he)
      generalize R * X = rx at *
      generalize X * X = xx at *
      refine run 60 [14] _ _ _ _ ?_
      refine And.intro ⟨⟨by omega, by omega⟩, ⟨by omega, by omega⟩⟩ (And.intro (fun h0 => ?_) (fun hpos => ?_))
      · obtain rfl : k = 0 := by omega
        refine Or.inl (And.intro ?_ rfl)
        rw [Nat.pow_zero, Nat.mul_one, Nat.mod_eq_of_lt hR] at he
        rw [he]
      · refine And.intro ⟨by omega, by omega, ⟨by omega, by omega⟩, ⟨by omega, by omega⟩⟩ (And.intro ⟨⟨by omega, by omega⟩, ⟨by omega, by omega⟩⟩ (And.intro (fun hne => ?_) (fun heq => ?_)))
        · conv => whnf
          rw [e2]
          refine And.intro ⟨by omega, by omega⟩ ?_
          conv => whnf
          refine And.intro ⟨by omega, by omega, ⟨by omega, by omega⟩, ⟨by omega, by omega⟩⟩ ?_
          rw [e4]
          refine And.intro ⟨by omega, by omega, ⟨by omega, by omega⟩, ⟨by omega, by omega⟩⟩ (And.intro ?_ trivial)
          exact nx0 (by omega) (by omega)
        · conv => whnf
          rw [e1]
          refine And.intro ⟨by omega, by omega⟩ ?_
          conv => whnf
          refine And.intro ⟨by omega, by omega, ⟨by omega, by omega⟩, ⟨by omega, by omega⟩⟩ ?_
          rw [e3]
          conv => whnf
          rw [e2]
          refine And.intro ⟨by omega, by omega⟩ ?_
          conv => whnf
          refine And.intro ⟨by omega, by omega, ⟨by omega, by omega⟩, ⟨by omega, by omega⟩⟩ ?_
          rw [e4]
          refine And.intro ⟨by omega, by omega, ⟨by omega, by omega⟩, ⟨by omega, by omega⟩⟩ (And.intro ?_ trivial)
          exact nx1 (by omega)
  change aw 0 [some (.inl (w : Int)), some (.inl (e : Int)), some (.inl (p : Int)), none, none, none, none, none] [] M0
  have z1 : (((1 : Fin 2).val : Nat) : Int) = 1 := rfl
  refine run 30 [14] _ _ _ _ ?_
  refine And.intro ⟨by omega, by omega⟩ ?_
  conv => whnf
  rw [z1]
  refine And.intro ⟨by omega, by omega, ⟨by omega, by omega⟩, ⟨by omega, by omega⟩⟩ (And.intro ⟨by omega, by omega, ⟨by omega, by omega⟩, ⟨by omega, by omega⟩⟩ ?_)
  have q1 : (1 : Int) % (p : Int) = ((1 % p : Nat) : Int) := (Int.natCast_emod 1 p).symm
  have q2 : (w : Int) % (p : Int) = ((w % p : Nat) : Int) := (Int.natCast_emod w p).symm
  have d1 := Nat.mod_lt 1 hp0
  have d2 := Nat.mod_lt w hp0
  rw [q1, q2]
  refine And.intro ⟨by omega, by omega⟩ (And.intro ?_ trivial)
  refine loop e e (1 % p) (w % p) (Nat.le_refl _) he d1 d2 ?_
  rw [Nat.mul_mod, Nat.mod_mod, ← Nat.pow_mod, ← Nat.mul_mod, Nat.one_mul]
theorem imX8_powers {l : Launch} {Z : ZT} (hZ : ZOk Z) : Impl l Z yX8_powers cX8_powers 8 (some .int) 1 c_powers := mkImpl (rt := 1) (CL := []) hZ.1 hZ.2.1 (by decide +kernel) kX8_powers fwX8 iwX8 lwX8 trivial (Nat.le_of_ble_eq_true rfl) (fun q h => absurd h List.not_mem_nil) ((v_powers _))
theorem gX8_207 {l : Launch} {Z : ZT} (hZ : ZOk Z) {d : Nat} (hd : 2 ≤ d) : CallI l Z RX8 d (207, none, c_powers) := fun p e s m args below meth c Q cc nL x0 X => callOk_S X (imX8_powers hZ) mlX8_207 sw_yX8_powers nw_RX8 cw_yX8_powers ⟨by decide +kernel, by decide +kernel, by decide +kernel⟩ ⟨hd, by decide⟩
