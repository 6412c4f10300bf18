/-! ===== primes ===== -/
def Pr (v : Nat) : Prop := 2 ≤ v ∧ ∀ d, 2 ≤ d → d < v → v % d ≠ 0
theorem Pr_sq {v q : Nat} (hv : 2 ≤ v) (h : ∀ d, 2 ≤ d → d < q → v % d ≠ 0) (hq : v / q < q) : Pr v := by
  refine ⟨hv, fun d h2 hd h0 => ?_⟩
  have e : d * (v / d) = v := Nat.mul_div_cancel' (Nat.dvd_of_mod_eq_zero h0)
  by_cases hdq : d < q
  · exact h d h2 hdq h0
  · have h1 : v / d ≤ v / q := Nat.div_le_div_left (by omega) (Nat.lt_of_le_of_lt (Nat.zero_le _) hq)
    have h3 : v / d < q := Nat.lt_of_le_of_lt h1 hq
    clear h1 hq
    generalize v / d = c at *
    have hc : 2 ≤ c := by
      rcases Nat.lt_or_ge c 2 with hh | hh
      · rcases (show c = 0 ∨ c = 1 by omega) with hz | hz
        · rw [hz] at e; omega
        · rw [hz] at e; omega
      · exact hh
    refine h c hc h3 ?_
    rw [← e, Nat.mul_mod_left]
/-- isPrime(v) -/
def c_isPrime : Call := ⟨Nat × Nat, 1, (fun (v, _) vs _ => vs = [.inl (v : Int)] ∧ v < 1073741824), .inr (fun (v, _) _ M x M' => ((x = 1 ∧ Pr v) ∨ (x = 0 ∧ ¬ Pr v)) ∧ M' = M)⟩
theorem v_isPrime (n : Nn) : Ver tX8_isPrime (fdX8, icX8, lcX8, []) 2 3 n c_isPrime := by
  rintro ⟨v, _⟩ vs M0 ⟨rfl, hv⟩ aw run
  have dead : ∀ q : Nat, 2 ≤ q → q < 2147483648 → ¬ Pr v → aw 13 [some (.inl (v : Int)), some (.inl 0), some (.inl (q : Int))] [] M0 := by
    intro q hq hq2 hn
    have e1 : (v : Int) / (q : Int) = ((v / q : Nat) : Int) := (Int.natCast_ediv _ _).symm
    have d1 := Nat.div_le_self v q
    obtain ⟨z, ez⟩ : ∃ z, z = v / q := ⟨_, rfl⟩
    rw [← ez] at e1 d1
    refine run 40 [] _ _ _ _ ?_
    refine And.intro ⟨by omega, by omega, ⟨by omega, by omega⟩, ⟨by omega, by omega⟩⟩ ?_
    rw [e1]
    repeat' first | intro h | refine And.intro ?_ ?_
    all_goals first | omega | skip
    all_goals refine Or.inl (And.intro (Or.inr (And.intro rfl hn)) rfl)
  have loop : ∀ (f q : Nat), v + 2 ≤ q + f → 2 ≤ q → q ≤ v + 2 → 2 ≤ v → (∀ d, 2 ≤ d → d < q → v % d ≠ 0) → aw 13 [some (.inl (v : Int)), some (.inl 1), some (.inl (q : Int))] [] M0 := by
    intro f
    induction f with
    | zero =>
      intro q hf hq hq2 hv2 hno
      exact absurd (Nat.mod_self v) (hno v hv2 (by omega))
    | succ f ih =>
      intro q hf hq hq2 hv2 hno
      have e1 : (v : Int) / (q : Int) = ((v / q : Nat) : Int) := (Int.natCast_ediv _ _).symm
      have e2 : (v : Int) % (q : Int) = ((v % q : Nat) : Int) := (Int.natCast_emod _ _).symm
      have d1 := Nat.div_le_self v q
      have d2 := Nat.mod_lt v (show 0 < q by omega)
      obtain ⟨z, ez⟩ : ∃ z, z = v / q := ⟨_, rfl⟩
      rw [← ez] at e1 d1
      refine run 40 [13] _ _ _ _ ?_
      refine And.intro ⟨by omega, by omega, ⟨by omega, by omega⟩, ⟨by omega, by omega⟩⟩ ?_
      rw [e1]
      refine And.intro ⟨⟨by omega, by omega⟩, ⟨by omega, by omega⟩⟩ (And.intro (fun hgt => ?_) (fun hle => ?_))
      · refine And.intro (Or.inr rfl) (Or.inl (And.intro (Or.inl (And.intro rfl (Pr_sq hv2 hno (by rw [← ez]; omega)))) rfl))
      · refine And.intro ⟨⟨by omega, by omega⟩, ⟨by omega, by omega⟩⟩ (And.intro (fun h0 => absurd h0 (by omega)) (fun _ => ?_))
        refine And.intro ⟨by omega, by omega, ⟨by omega, by omega⟩, ⟨by omega, by omega⟩⟩ ?_
        rw [e2]
        have hqv : q < v := by
          rcases Nat.lt_or_ge q v with h | h
          · exact h
          · have : v / q ≤ 1 := by
              have := Nat.div_le_div_right (c := q) h
              rw [Nat.div_self (by omega)] at this
              exact this
            rw [← ez] at this
            omega
        refine And.intro ⟨⟨by omega, by omega⟩, ⟨by omega, by omega⟩⟩ (And.intro (fun hz => And.intro ?_ trivial) (fun hnz => And.intro ?_ trivial))
        · rw [show (q : Int) + 1 = ((q + 1 : Nat) : Int) by omega]
          exact dead (q + 1) (by omega) (by omega) (fun hp => hp.2 q hq hqv (by omega))
        · rw [show (q : Int) + 1 = ((q + 1 : Nat) : Int) by omega]
          refine ih (q + 1) (by omega) (by omega) (by omega) hv2 (fun d h1 h2 => ?_)
          by_cases e : d = q
          · rw [e]; omega
          · exact hno d h1 (by omega)
  change aw 0 [some (.inl (v : Int)), none, none] [] M0
  refine run 20 [13] _ _ _ _ ?_
  repeat' first | intro h | refine And.intro ?_ ?_
  all_goals first | omega | trivial | skip
  · exact dead 2 (by omega) (by omega) (fun hp => by have := hp.1; omega)
  · exact loop v 2 (by omega) (by omega) (by omega) (by omega) (fun d h1 h2 => by omega)
theorem imX8_isPrime {l : Launch} {Z : ZT} (hZ : ZOk Z) : Impl l Z yX8_isPrime cX8_isPrime 3 (some .boolean) 1 c_isPrime := mkImpl (rt := 2) (CL := []) hZ.1 hZ.2.1 (by decide +kernel) kX8_isPrime fwX8 iwX8 lwX8 trivial (Nat.le_of_ble_eq_true rfl) (fun q h => absurd h List.not_mem_nil) ((v_isPrime _))
theorem gX8_223 {l : Launch} {Z : ZT} (hZ : ZOk Z) {d : Nat} (hd : 2 ≤ d) : CallI l Z RX8 d (223, none, c_isPrime) := fun p e s m args below meth c Q cc nL x0 X => callOk_S X (imX8_isPrime hZ) mlX8_223 sw_yX8_isPrime nw_RX8 cw_yX8_isPrime ⟨by decide +kernel, by decide +kernel, by decide +kernel⟩ ⟨hd, by decide⟩
