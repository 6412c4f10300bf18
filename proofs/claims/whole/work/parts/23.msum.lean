/-! ===== the reference: sums and differences ===== -/
/-- what is carried into digit i of a + b -/
def cyA (a b i : Nat) : Nat := (a % 32768 ^ i + b % 32768 ^ i) / 32768 ^ i
theorem md_dv (x i : Nat) : x / 32768 ^ i % 32768 = x % 32768 ^ (i + 1) / 32768 ^ i := by
  rw [nn_succ, Nat.mod_mul_right_div_self]
theorem cyA_t (a b i : Nat) : dg a i + dg b i + cyA a b i = (a % 32768 ^ (i + 1) + b % 32768 ^ (i + 1)) / 32768 ^ i := by
  unfold cyA
  rw [md_s a, md_s b, show a % 32768 ^ i + 32768 ^ i * dg a i + (b % 32768 ^ i + 32768 ^ i * dg b i) = (a % 32768 ^ i + b % 32768 ^ i) + 32768 ^ i * (dg a i + dg b i) by rw [Nat.mul_add]; omega, Nat.add_mul_div_left _ _ (nn_pos i)]
  omega
theorem cyA_d (a b i : Nat) : (dg a i + dg b i + cyA a b i) % 32768 = dg (a + b) i := by
  rw [cyA_t, md_dv]
  unfold dg
  rw [md_dv, ← Nat.add_mod]
theorem cyA_s (a b i : Nat) : (dg a i + dg b i + cyA a b i) / 32768 = cyA a b (i + 1) := by
  rw [cyA_t]
  unfold cyA
  rw [Nat.div_div_eq_div_mul, ← nn_succ]
theorem cyA_0 (a b : Nat) : cyA a b 0 = 0 := by simp [cyA, Nat.mod_one]
theorem cyA_lt (a b i : Nat) : cyA a b i < 2 := by
  unfold cyA
  have h1 := Nat.mod_lt a (nn_pos i)
  have h2 := Nat.mod_lt b (nn_pos i)
  rw [Nat.div_lt_iff_lt_mul (nn_pos i)]
  omega
theorem cyA_top {a b n : Nat} (ha : nd a ≤ n) (hb : nd b ≤ n) : cyA a b n = dg (a + b) n ∧ a + b < 32768 ^ (n + 1) := by
  have e : cyA a b n = (a + b) / 32768 ^ n := by unfold cyA; rw [md_nd ha, md_nd hb]
  have h2 := cyA_lt a b n
  have h3 : a + b < 32768 ^ (n + 1) := by
    rw [nn_succ]
    have h4 := nd_le.mp ha
    have h5 := nd_le.mp hb
    omega
  refine ⟨?_, h3⟩
  unfold dg
  rw [← e, Nat.mod_eq_of_lt (by omega)]
/-- sum(a, b, d) -/
def c_sum : Call := ⟨Nat × Nat × Nat × Nat × Nat, 4, (fun (a, b, d, v, w) vs M => vs = [.inr (.inr 50), .inl (a : Int), .inl (b : Int), .inl (d : Int)] ∧ a < 37 ∧ b < 37 ∧ d < 37 ∧ a ≠ d ∧ b ≠ d ∧ MH M a v ∧ nd v ≤ 400 ∧ MH M b w ∧ nd w ≤ 400), .inl (fun (_, _, d, v, w) _ M M' => MH M' d (v + w) ∧ FrM M M' d)⟩
theorem v_sum (n : Nn) : Ver tX8_sum (fdX8, icX8, lcX8, [(76, some 8, c_at), (80, some 8, c_put), (85, some 8, c_fix)]) 0 8 n c_sum := by
  rintro ⟨a, b, d, v, w⟩ vs M0 ⟨rfl, ha, hb, hd, had, hbd, hv, hn, hw, hm⟩ aw run
  have hl : lnF n 52 = 37 := rfl
  have h1 := hv.1
  have h2 := hw.1
  have loop : ∀ (N k i : Nat) (M : Mem) (o7 : Option AV), nd v ≤ N → nd w ≤ N → N ≤ 400 → i + k = N → MH M a v → MH M b w → FrM M0 M d → (∀ j, j < i → M 51 (420 * d + j) = (dg (v + w) j : Int)) → aw 38 [some (.inr (.inr 50)), some (.inl (a : Int)), some (.inl (b : Int)), some (.inl (d : Int)), some (.inl (N : Int)), some (.inl (cyA v w i : Int)), some (.inl (i : Int)), o7] [] M := by
    intro N k
    induction k with
    | zero =>
      intro i M o7 q1 q2 q3 hi hA hB hF hD
      obtain rfl : i = N := by omega
      obtain ⟨t1, t2⟩ := cyA_top q1 q2
      refine run 60 [38] _ _ _ _ ?_
      repeat' first | intro h | refine And.intro ?_ ?_
      all_goals first | omega | rfl | trivial | skip
      refine ⟨(d, i, (cyA v w i : Int)), ⟨rfl, by omega⟩, ?_⟩
      rintro M1 rfl
      have hD2 : ∀ j, j < i + 1 → up2 M 51 (420 * d + i) (cyA v w i : Int) 51 (420 * d + j) = (dg (v + w) j : Int) := by
        intro j hj
        by_cases hj2 : j = i
        · rw [hj2, up2_s, t1]
        · rw [up2_k (by omega)]
          exact hD j (by omega)
      refine And.intro rfl ⟨(d, i + 1, v + w), ⟨rfl, hd, by omega, t2, hD2⟩, ?_⟩
      rintro M2 rfl
      exact Or.inl (And.intro (MH_fix hD2 t2) ((hF.tr (FrM.put (by omega))).tr FrM.len))
    | succ k ih =>
      intro i M o7 q1 q2 q3 hi hA hB hF hD
      have g1 := dg_lt v i
      have g2 := dg_lt w i
      have g3 := cyA_lt v w i
      refine run 60 [38] _ _ _ _ ?_
      repeat' first | intro h | refine And.intro ?_ ?_
      all_goals first | omega | rfl | trivial | skip
      refine ⟨(a, (i : Int), v), ⟨rfl, ha, ⟨by omega, by omega⟩, hA, by omega⟩, ?_⟩
      rintro x M1 ⟨rfl, rfl⟩
      rw [dgZ_n]
      refine ⟨rfl, (b, (i : Int), w), ⟨rfl, hb, ⟨by omega, by omega⟩, hB, by omega⟩, ?_⟩
      rintro y M2 ⟨rfl, rfl⟩
      rw [dgZ_n]
      refine And.intro ⟨by omega, by omega, ⟨by omega, by omega⟩, ⟨by omega, by omega⟩⟩ (And.intro rfl ?_)
      have e1 : ((dg v i : Int) + (dg w i : Int) + (cyA v w i : Int)) % 32768 = (dg (v + w) i : Int) := by rw [← cyA_d]; omega
      have e2 : ((dg v i : Int) + (dg w i : Int) + (cyA v w i : Int)) / 32768 = (cyA v w (i + 1) : Int) := by rw [← cyA_s]; omega
      rw [e1]
      refine ⟨(d, i, (dg (v + w) i : Int)), ⟨rfl, by omega⟩, ?_⟩
      rintro M3 rfl
      refine And.intro ⟨by omega, by omega, ⟨by omega, by omega⟩, ⟨by omega, by omega⟩⟩ (And.intro ?_ trivial)
      rw [e2, show ((i : Int) + 1) = ((i + 1 : Nat) : Int) by omega]
      refine ih (i + 1) _ _ q1 q2 q3 (by omega) ((FrM.put (by omega)).keep had hA (by omega)) ((FrM.put (by omega)).keep hbd hB (by omega)) (hF.tr (FrM.put (by omega))) ?_
      intro j hj
      by_cases hj2 : j = i
      · rw [hj2, up2_s]
      · rw [up2_k (by omega)]
        exact hD j (by omega)
  change aw 0 [some (.inr (.inr 50)), some (.inl (a : Int)), some (.inl (b : Int)), some (.inl (d : Int)), none, none, none, none] [] M0
  refine run 40 [38] _ _ _ _ ?_
  repeat' first | intro h | refine And.intro ?_ ?_
  all_goals try simp only [Int.toNat_natCast] at *
  all_goals first | omega | rfl | trivial | skip
  · rw [h2]
    have := loop (nd w) (nd w) 0 M0 none (by omega) (by omega) (by omega) (by omega) hv hw (FrM.rf _ _) (fun j hj => by omega)
    rw [cyA_0] at this
    exact this
  · rw [h1]
    have := loop (nd v) (nd v) 0 M0 none (by omega) (by omega) (by omega) (by omega) hv hw (FrM.rf _ _) (fun j hj => by omega)
    rw [cyA_0] at this
    exact this
theorem imX8_sum {l : Launch} {Z : ZT} (hZ : ZOk Z) : Impl l Z yX8_sum cX8_sum 8 none 2 c_sum := mkImpl (rt := 0) (CL := [(76, some 8, c_at), (80, some 8, c_put), (85, some 8, c_fix)]) hZ.1 hZ.2.1 (by decide +kernel) kX8_sum fwX8 iwX8 lwX8 trivial (Nat.le_of_ble_eq_true rfl) (List.forall_mem_cons.mpr ⟨gX8_76 hZ (by decide), List.forall_mem_cons.mpr ⟨gX8_80 hZ (by decide), List.forall_mem_cons.mpr ⟨gX8_85 hZ (by decide), fun q h => absurd h List.not_mem_nil⟩⟩⟩) ((v_sum _))
theorem gX8_150 {l : Launch} {Z : ZT} (hZ : ZOk Z) {d : Nat} (hd : 3 ≤ d) : CallI l Z RX8 d (150, some 8, c_sum) := fun p e s m args below meth c Q cc nL x0 X => callOk_V X (imX8_sum hZ) (by decide) rfl mlX8_150 iw_yX8_sum vw_yX8_sum nw_RX8 cw_yX8_sum ⟨by decide +kernel, by decide +kernel, by decide +kernel⟩ ⟨hd, by decide⟩
