/-! ===== the reference: differences ===== -/
def bwA (a b i : Nat) : Nat := if a % 32768 ^ i < b % 32768 ^ i then 1 else 0
theorem bwA_0 (a b : Nat) : bwA a b 0 = 0 := by simp [bwA, Nat.mod_one]
theorem bwA_lt (a b i : Nat) : bwA a b i < 2 := by unfold bwA; split <;> omega
theorem bwA_s (a b i : Nat) : ((dg a i : Int) - (dg b i : Int) - (bwA a b i : Int) < 0 → bwA a b (i + 1) = 1) ∧ (0 ≤ (dg a i : Int) - (dg b i : Int) - (bwA a b i : Int) → bwA a b (i + 1) = 0) := by
  have h1 := md_s a i
  have h2 := md_s b i
  have h3 := Nat.mod_lt a (nn_pos i)
  have h4 := Nat.mod_lt b (nn_pos i)
  have key : a % 32768 ^ (i + 1) < b % 32768 ^ (i + 1) ↔ (dg a i : Int) - (dg b i : Int) - (bwA a b i : Int) < 0 := by
    rw [h1, h2]
    rcases Nat.lt_trichotomy (dg a i) (dg b i) with h | h | h
    · have := Nat.mul_le_mul_left (32768 ^ i) (show dg a i + 1 ≤ dg b i by omega)
      rw [Nat.mul_add, Nat.mul_one] at this
      omega
    · rw [h]
      unfold bwA
      split <;> omega
    · have := Nat.mul_le_mul_left (32768 ^ i) (show dg b i + 1 ≤ dg a i by omega)
      rw [Nat.mul_add, Nat.mul_one] at this
      have := bwA_lt a b i
      omega
  constructor
  · intro h
    show (if a % 32768 ^ (i + 1) < b % 32768 ^ (i + 1) then 1 else 0) = 1
    rw [if_pos (key.mpr h)]
  · intro h
    show (if a % 32768 ^ (i + 1) < b % 32768 ^ (i + 1) then 1 else 0) = 0
    rw [if_neg (fun q => by have := key.mp q; omega)]
theorem bwA_q {a b : Nat} (h : b ≤ a) (i : Nat) : a / 32768 ^ i = (a - b) / 32768 ^ i + b / 32768 ^ i + bwA a b i := by
  have hp := nn_pos i
  have h1 := Nat.div_add_mod a (32768 ^ i)
  have h2 := Nat.div_add_mod b (32768 ^ i)
  have h3 := Nat.mod_lt a hp
  have h4 := Nat.mod_lt b hp
  have h5 := bwA_lt a b i
  generalize hA : a / 32768 ^ i = A at *
  generalize hB : b / 32768 ^ i = B at *
  have hAB : B + bwA a b i ≤ A := by
    unfold bwA
    split
    · rename_i hlt
      by_cases q : B + 1 ≤ A
      · exact q
      · have := Nat.mul_le_mul_left (32768 ^ i) (show A ≤ B by omega)
        omega
    · by_cases q : B ≤ A
      · omega
      · have := Nat.mul_le_mul_left (32768 ^ i) (show A + 1 ≤ B by omega)
        rw [Nat.mul_add, Nat.mul_one] at this
        omega
  have hc : (a % 32768 ^ i < b % 32768 ^ i ∧ bwA a b i = 1) ∨ (b % 32768 ^ i ≤ a % 32768 ^ i ∧ bwA a b i = 0) := by
    unfold bwA
    split
    · exact Or.inl ⟨by assumption, rfl⟩
    · exact Or.inr ⟨by omega, rfl⟩
  have e : (a - b) / 32768 ^ i = A - B - bwA a b i := by
    have hm := Nat.mul_le_mul_left (32768 ^ i) hAB
    rw [Nat.mul_add] at hm
    rcases hc with ⟨c1, c2⟩ | ⟨c1, c2⟩
    · rw [c2] at hm ⊢
      rw [Nat.mul_one] at hm
      apply Nat.div_eq_of_lt_le
      · rw [Nat.sub_mul, Nat.sub_mul, Nat.mul_comm A, Nat.mul_comm B]
        omega
      · rw [Nat.add_mul, Nat.sub_mul, Nat.sub_mul, Nat.mul_comm A, Nat.mul_comm B]
        omega
    · rw [c2] at hm ⊢
      apply Nat.div_eq_of_lt_le
      · rw [Nat.sub_mul, Nat.sub_mul, Nat.mul_comm A, Nat.mul_comm B]
        omega
      · rw [Nat.add_mul, Nat.sub_mul, Nat.sub_mul, Nat.mul_comm A, Nat.mul_comm B]
        omega
  omega
theorem bwA_d {a b : Nat} (h : b ≤ a) (i : Nat) : ((dg a i : Int) - (dg b i : Int) - (bwA a b i : Int) < 0 → (dg a i : Int) - (dg b i : Int) - (bwA a b i : Int) + 32768 = (dg (a - b) i : Int)) ∧ (0 ≤ (dg a i : Int) - (dg b i : Int) - (bwA a b i : Int) → (dg a i : Int) - (dg b i : Int) - (bwA a b i : Int) = (dg (a - b) i : Int)) := by
  have h1 := bwA_q h i
  have h2 := bwA_lt a b i
  unfold dg
  omega
/-- difference(a, b, d) -/
def c_difference : Call := ⟨Nat × Nat × Nat × Nat × Nat, 4, (fun (a, b, d, v, w) vs M => vs = [.inr (.inr 50), .inl (a : Int), .inl (b : Int), .inl (d : Int)] ∧ a < 37 ∧ b < 37 ∧ d < 37 ∧ a ≠ d ∧ b ≠ d ∧ MH M a v ∧ nd v ≤ 400 ∧ MH M b w ∧ w ≤ v), .inl (fun (_, _, d, v, w) _ M M' => MH M' d (v - w) ∧ FrM M M' d)⟩
theorem v_difference (n : Nn) : Ver tX8_difference (fdX8, icX8, lcX8, [(76, some 8, c_at), (80, some 8, c_put), (85, some 8, c_fix)]) 0 8 n c_difference := by
  rintro ⟨a, b, d, v, w⟩ vs M0 ⟨rfl, ha, hb, hd, had, hbd, hv, hn, hw, hwv⟩ aw run
  have hl : lnF n 52 = 37 := rfl
  have h1 := hv.1
  have hm := nd_mono hwv
  have loop : ∀ (k i : Nat) (M : Mem) (o7 : Option AV), i + k = nd v → MH M a v → MH M b w → FrM M0 M d → (∀ j, j < i → M 51 (420 * d + j) = (dg (v - w) j : Int)) → aw 14 [some (.inr (.inr 50)), some (.inl (a : Int)), some (.inl (b : Int)), some (.inl (d : Int)), some (.inl (nd v : Int)), some (.inl (bwA v w i : Int)), some (.inl (i : Int)), o7] [] M := by
    intro k
    induction k with
    | zero =>
      intro i M o7 hi hA hB hF hD
      obtain rfl : i = nd v := by omega
      have t2 : v - w < 32768 ^ nd v := Nat.lt_of_le_of_lt (Nat.sub_le _ _) (nd_lt v)
      refine run 60 [14] _ _ _ _ ?_
      repeat' first | intro h | refine And.intro ?_ ?_
      all_goals first | omega | rfl | trivial | skip
      refine ⟨(d, nd v, v - w), ⟨rfl, hd, by omega, t2, hD⟩, ?_⟩
      rintro M2 rfl
      exact Or.inl (And.intro (MH_fix hD t2) (hF.tr FrM.len))
    | succ k ih =>
      intro i M o7 hi hA hB hF hD
      have g1 := dg_lt v i
      have g2 := dg_lt w i
      have g3 := bwA_lt v w i
      have s1 := bwA_s v w i
      have s2 := bwA_d hwv i
      have fin : ∀ (x : Int) (o7 : Option AV), x = (dg (v - w) i : Int) → aw 14 [some (.inr (.inr 50)), some (.inl (a : Int)), some (.inl (b : Int)), some (.inl (d : Int)), some (.inl (nd v : Int)), some (.inl (bwA v w (i + 1) : Int)), some (.inl ((i : Int) + 1)), o7] [] (up2 M 51 (420 * d + i) x) := by
        intro x o7 hx
        rw [hx, show ((i : Int) + 1) = ((i + 1 : Nat) : Int) by omega]
        refine ih (i + 1) _ _ (by omega) ((FrM.put (by omega)).keep had hA (by omega)) ((FrM.put (by omega)).keep hbd hB (by omega)) (hF.tr (FrM.put (by omega))) ?_
        intro j hj
        by_cases hj2 : j = i
        · rw [hj2, up2_s]
        · rw [up2_k (by omega)]
          exact hD j (by omega)
      refine run 60 [14] _ _ _ _ ?_
      repeat' first | intro h | refine And.intro ?_ ?_
      all_goals first | omega | rfl | trivial | skip
      refine ⟨(a, (i : Int), v), ⟨rfl, ha, ⟨by omega, by omega⟩, hA, by omega⟩, ?_⟩
      rintro x M1 ⟨rfl, rfl⟩
      rw [dgZ_n]
      refine ⟨rfl, (b, (i : Int), w), ⟨rfl, hb, ⟨by omega, by omega⟩, hB, by omega⟩, ?_⟩
      rintro y M2 ⟨rfl, rfl⟩
      rw [dgZ_n]
      repeat' first | intro h | refine And.intro ?_ ?_
      all_goals first | omega | rfl | trivial | skip
      · refine ⟨(d, i, _), ⟨rfl, by omega⟩, ?_⟩
        rintro M3 rfl
        refine And.intro ?_ trivial
        have := fin _ (some (.inl ((dg v i : Int) - (dg w i : Int) - (bwA v w i : Int)))) (s2.2 (by omega))
        rw [s1.2 (by omega)] at this
        exact this
      · refine ⟨(d, i, _), ⟨rfl, by omega⟩, ?_⟩
        rintro M3 rfl
        refine And.intro ?_ trivial
        have := fin _ (some (.inl ((dg v i : Int) - (dg w i : Int) - (bwA v w i : Int)))) (s2.1 (by omega))
        rw [s1.1 (by omega)] at this
        exact this
  change aw 0 [some (.inr (.inr 50)), some (.inl (a : Int)), some (.inl (b : Int)), some (.inl (d : Int)), none, none, none, none] [] M0
  refine run 40 [14] _ _ _ _ ?_
  repeat' first | intro h | refine And.intro ?_ ?_
  all_goals try simp only [Int.toNat_natCast] at *
  all_goals first | omega | rfl | trivial | skip
  rw [h1]
  have := loop (nd v) 0 M0 none (by omega) hv hw (FrM.rf _ _) (fun j hj => by omega)
  rw [bwA_0] at this
  exact this
theorem imX8_difference {l : Launch} {Z : ZT} (hZ : ZOk Z) : Impl l Z yX8_difference cX8_difference 8 none 2 c_difference := mkImpl (rt := 0) (CL := [(76, some 8, c_at), (80, some 8, c_put), (85, some 8, c_fix)]) hZ.1 hZ.2.1 (by decide +kernel) kX8_difference fwX8 iwX8 lwX8 trivial (Nat.le_of_ble_eq_true rfl) (List.forall_mem_cons.mpr ⟨gX8_76 hZ (by decide), List.forall_mem_cons.mpr ⟨gX8_80 hZ (by decide), List.forall_mem_cons.mpr ⟨gX8_85 hZ (by decide), fun q h => absurd h List.not_mem_nil⟩⟩⟩) ((v_difference _))
theorem gX8_156 {l : Launch} {Z : ZT} (hZ : ZOk Z) {d : Nat} (hd : 3 ≤ d) : CallI l Z RX8 d (156, some 8, c_difference) := fun p e s m args below meth c Q cc nL x0 X => callOk_V X (imX8_difference hZ) (by decide) rfl mlX8_156 iw_yX8_difference vw_yX8_difference nw_RX8 cw_yX8_difference ⟨by decide +kernel, by decide +kernel, by decide +kernel⟩ ⟨hd, by decide⟩
