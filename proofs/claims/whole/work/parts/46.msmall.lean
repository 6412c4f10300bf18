/-! ===== the reference: words and digits told ===== -/
/-- told(i) -/
def c_told : Call := ⟨Int × Nat, 2, (fun (i, c) vs M => vs = [.inr (.inr 50), .inl i] ∧ inR i ∧ M 50 18 = (c : Int) ∧ c ≤ 400), .inr (fun (i, c) _ M x M' => x = (if 0 ≤ i ∧ i < (c : Int) then M 60 i.toNat else -1) ∧ M' = M)⟩
theorem v_told (n : Nn) : Ver tX8_told (fdX8, icX8, lcX8, [(127, none, c_isIn)]) 1 2 n c_told := by
  rintro ⟨i, c⟩ vs M0 ⟨rfl, hi, h1, h2⟩ aw run
  have l60 : lnF n 60 = 400 := rfl
  have hi0 := hi
  unfold inR at hi
  change aw 0 [some (.inr (.inr 50)), some (.inl i)] [] M0
  refine run 40 [] _ _ _ _ ?_
  refine And.intro rfl ⟨(i, 0, M0 50 18 - 1), ⟨rfl, hi0, ⟨by omega, by omega⟩, ⟨by omega, by omega⟩⟩, ?_⟩
  rintro x M1 ⟨rfl, rfl⟩
  by_cases hin : 0 ≤ i ∧ i ≤ M1 50 18 - 1
  · rw [if_pos hin]
    repeat' first | intro h | refine And.intro ?_ ?_
    all_goals first | omega | rfl | skip
    refine Or.inl (And.intro ?_ rfl)
    exact (if_pos (by omega)).symm
  · rw [if_neg hin]
    repeat' first | intro h | refine And.intro ?_ ?_
    all_goals first | omega | rfl | skip
    refine Or.inl (And.intro ?_ rfl)
    exact (if_neg (by omega)).symm
theorem imX8_told {l : Launch} {Z : ZT} (hZ : ZOk Z) : Impl l Z yX8_told cX8_told 2 (some .int) 2 c_told := mkImpl (rt := 1) (CL := [(127, none, c_isIn)]) hZ.1 hZ.2.1 (by decide +kernel) kX8_told fwX8 iwX8 lwX8 trivial (Nat.le_of_ble_eq_true rfl) (List.forall_mem_cons.mpr ⟨gX8_127 hZ (by decide), fun q h => absurd h List.not_mem_nil⟩) ((v_told _))
/-- clear() -/
def c_clear : Call := ⟨Nat × Nat, 1, (fun (c, _) vs M => vs = [.inr (.inr 50)] ∧ M 50 18 = (c : Int)), .inr (fun (c, _) _ M x M' => x = (c : Int) ∧ M' = up2 M 50 18 0)⟩
theorem v_clear (n : Nn) : Ver tX8_clear (fdX8, icX8, lcX8, []) 1 2 n c_clear := by
  rintro ⟨c, u⟩ vs M0 ⟨rfl, h1⟩ aw run
  change aw 0 [some (.inr (.inr 50)), none] [] M0
  refine run 20 [] _ _ _ _ ?_
  repeat' first | intro h | refine And.intro ?_ ?_
  all_goals first | omega | rfl | skip
  exact Or.inl (And.intro h1 rfl)
theorem imX8_clear {l : Launch} {Z : ZT} (hZ : ZOk Z) : Impl l Z yX8_clear cX8_clear 2 (some .int) 1 c_clear := mkImpl (rt := 1) (CL := []) hZ.1 hZ.2.1 (by decide +kernel) kX8_clear fwX8 iwX8 lwX8 trivial (Nat.le_of_ble_eq_true rfl) (fun q h => absurd h List.not_mem_nil) ((v_clear _))
/-- fault() -/
def c_fault : Call := ⟨Int × Nat, 1, (fun (f, _) vs M => vs = [.inr (.inr 50)] ∧ M 50 16 = f), .inr (fun (f, _) _ M x M' => x = f ∧ M' = M)⟩
theorem v_fault (n : Nn) : Ver tX8_fault (fdX8, icX8, lcX8, []) 1 1 n c_fault := by
  rintro ⟨f, u⟩ vs M0 ⟨rfl, h1⟩ aw run
  change aw 0 [some (.inr (.inr 50))] [] M0
  refine run 20 [] _ _ _ _ ?_
  refine And.intro rfl (Or.inl (And.intro h1 rfl))
theorem imX8_fault {l : Launch} {Z : ZT} (hZ : ZOk Z) : Impl l Z yX8_fault cX8_fault 1 (some .int) 1 c_fault := mkImpl (rt := 1) (CL := []) hZ.1 hZ.2.1 (by decide +kernel) kX8_fault fwX8 iwX8 lwX8 trivial (Nat.le_of_ble_eq_true rfl) (fun q h => absurd h List.not_mem_nil) ((v_fault _))
/-- out(i) -/
def c_out : Call := ⟨Int × Nat, 2, (fun (i, c) vs M => vs = [.inr (.inr 50), .inl i] ∧ inR i ∧ M 50 15 = (c : Int) ∧ c ≤ 970), .inr (fun (i, c) _ M x M' => x = (if 0 ≤ i ∧ i < (c : Int) then M 59 i.toNat else -1) ∧ M' = M)⟩
theorem v_out (n : Nn) : Ver tX8_out (fdX8, icX8, lcX8, [(127, none, c_isIn)]) 1 2 n c_out := by
  rintro ⟨i, c⟩ vs M0 ⟨rfl, hi, h1, h2⟩ aw run
  have l59 : lnF n 59 = 970 := rfl
  have hi0 := hi
  unfold inR at hi
  change aw 0 [some (.inr (.inr 50)), some (.inl i)] [] M0
  refine run 40 [] _ _ _ _ ?_
  refine And.intro rfl ⟨(i, 0, M0 50 15 - 1), ⟨rfl, hi0, ⟨by omega, by omega⟩, ⟨by omega, by omega⟩⟩, ?_⟩
  rintro x M1 ⟨rfl, rfl⟩
  by_cases hin : 0 ≤ i ∧ i ≤ M1 50 15 - 1
  · rw [if_pos hin]
    repeat' first | intro h | refine And.intro ?_ ?_
    all_goals first | omega | rfl | skip
    refine Or.inl (And.intro ?_ rfl)
    exact (if_pos (by omega)).symm
  · rw [if_neg hin]
    repeat' first | intro h | refine And.intro ?_ ?_
    all_goals first | omega | rfl | skip
    refine Or.inl (And.intro ?_ rfl)
    exact (if_neg (by omega)).symm
theorem imX8_out {l : Launch} {Z : ZT} (hZ : ZOk Z) : Impl l Z yX8_out cX8_out 2 (some .int) 2 c_out := mkImpl (rt := 1) (CL := [(127, none, c_isIn)]) hZ.1 hZ.2.1 (by decide +kernel) kX8_out fwX8 iwX8 lwX8 trivial (Nat.le_of_ble_eq_true rfl) (List.forall_mem_cons.mpr ⟨gX8_127 hZ (by decide), fun q h => absurd h List.not_mem_nil⟩) ((v_out _))
