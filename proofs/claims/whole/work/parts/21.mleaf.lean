/-! ===== the reference: its rows of limbs ===== -/
/-- row s of the reference holds v -/
def MH (M : Mem) (s v : Nat) : Prop := Hd (fun i => M 51 (420 * s + i)) (M 52 s) v
/-- isIn(v, a, b) -/
def c_isIn : Call := ⟨Int × Int × Int, 3, (fun (v, a, b) vs _ => vs = [.inl v, .inl a, .inl b] ∧ inR v ∧ inR a ∧ inR b), .inr (fun (v, a, b) _ M x M' => x = (if a ≤ v ∧ v ≤ b then 1 else 0) ∧ M' = M)⟩
theorem v_isIn (n : Nn) : Ver tX8_isIn (fdX8, icX8, lcX8, []) 2 3 n c_isIn := by
  rintro ⟨v, a, b⟩ vs M0 ⟨rfl, hv, ha, hb⟩ aw run
  unfold inR at hv ha hb
  change aw 0 [some (.inl v), some (.inl a), some (.inl b)] [] M0
  refine run 20 [] _ _ _ _ ?_
  repeat' first | intro h | refine And.intro ?_ ?_
  all_goals first | omega | (refine Or.inl (And.intro ?_ rfl); omega)
theorem imX8_isIn {l : Launch} {Z : ZT} (hZ : ZOk Z) : Impl l Z yX8_isIn cX8_isIn 3 (some .boolean) 1 c_isIn := mkImpl (rt := 2) (CL := []) hZ.1 hZ.2.1 (by decide +kernel) kX8_isIn fwX8 iwX8 lwX8 trivial (Nat.le_of_ble_eq_true rfl) (fun q h => absurd h List.not_mem_nil) ((v_isIn _))
theorem gX8_127 {l : Launch} {Z : ZT} (hZ : ZOk Z) {d : Nat} (hd : 2 ≤ d) : CallI l Z RX8 d (127, none, c_isIn) := fun p e s m args below meth c Q cc nL x0 X => callOk_S X (imX8_isIn hZ) mlX8_127 sw_yX8_isIn nw_RX8 cw_yX8_isIn ⟨by decide +kernel, by decide +kernel, by decide +kernel⟩ ⟨hd, by decide⟩
/-- at(s, i): the limb, 0 outside -/
def c_at : Call := ⟨Nat × Int × Nat, 3, (fun (s, i, v) vs M => vs = [.inr (.inr 50), .inl (s : Int), .inl i] ∧ s < 37 ∧ inR i ∧ MH M s v ∧ nd v ≤ 420), .inr (fun (_, i, v) _ M x M' => x = dgZ v i ∧ M' = M)⟩
theorem v_at (n : Nn) : Ver tX8_at (fdX8, icX8, lcX8, []) 1 3 n c_at := by
  rintro ⟨s, i, v⟩ vs M0 ⟨rfl, hs, hi, hv, hn⟩ aw run
  unfold inR at hi
  have h1 := hv.1
  have hl : lnF n 52 = 37 := rfl
  have hl2 : lnF n 51 = 15540 := rfl
  change aw 0 [some (.inr (.inr 50)), some (.inl (s : Int)), some (.inl i)] [] M0
  refine run 30 [] _ _ _ _ ?_
  repeat' first | intro h | refine And.intro ?_ ?_
  all_goals try simp only [Int.toNat_natCast] at *
  all_goals first | omega | rfl | trivial | skip
  · exact Or.inl (And.intro (dgZ_neg h).symm rfl)
  · rename_i h9
    refine Or.inl (And.intro ?_ rfl)
    have e := hv.2 i.toNat (by omega)
    have e2 : (420 * (s : Int) + i).toNat = 420 * s + i.toNat := by omega
    show M0 51 (420 * (s : Int) + i).toNat = dgZ v i
    rw [e2]
    unfold dgZ
    rw [if_neg (by omega)]
    exact e
  · refine Or.inl (And.intro ?_ rfl)
    show 0 = dgZ v i
    unfold dgZ
    rw [if_neg (by omega), dg_z (by omega)]
    rfl
theorem imX8_at {l : Launch} {Z : ZT} (hZ : ZOk Z) : Impl l Z yX8_at cX8_at 3 (some .int) 1 c_at := mkImpl (rt := 1) (CL := []) hZ.1 hZ.2.1 (by decide +kernel) kX8_at fwX8 iwX8 lwX8 trivial (Nat.le_of_ble_eq_true rfl) (fun q h => absurd h List.not_mem_nil) ((v_at _))
theorem gX8_76 {l : Launch} {Z : ZT} (hZ : ZOk Z) {d : Nat} (hd : 2 ≤ d) : CallI l Z RX8 d (76, some 8, c_at) := fun p e s m args below meth c Q cc nL x0 X => callOk_V X (imX8_at hZ) (by decide) rfl mlX8_76 iw_yX8_at vw_yX8_at nw_RX8 cw_yX8_at ⟨by decide +kernel, by decide +kernel, by decide +kernel⟩ ⟨hd, by decide⟩
/-- put(s, i, x) -/
def c_put : Call := ⟨Nat × Nat × Int, 4, (fun (s, i, x) vs _ => vs = [.inr (.inr 50), .inl (s : Int), .inl (i : Int), .inl x] ∧ 420 * s + i < 15540), .inl (fun (s, i, x) _ M M' => M' = up2 M 51 (420 * s + i) x)⟩
theorem v_put (n : Nn) : Ver tX8_put (fdX8, icX8, lcX8, []) 0 4 n c_put := by
  rintro ⟨s, i, x⟩ vs M0 ⟨rfl, hs⟩ aw run
  have hl2 : lnF n 51 = 15540 := rfl
  change aw 0 [some (.inr (.inr 50)), some (.inl (s : Int)), some (.inl (i : Int)), some (.inl x)] [] M0
  refine run 30 [] _ _ _ _ ?_
  have e2 : (420 * (s : Int) + (i : Int)).toNat = 420 * s + i := by omega
  repeat' first | intro h | refine And.intro ?_ ?_
  all_goals first | omega | rfl | trivial | skip
  exact Or.inl rfl
theorem imX8_put {l : Launch} {Z : ZT} (hZ : ZOk Z) : Impl l Z yX8_put cX8_put 4 none 1 c_put := mkImpl (rt := 0) (CL := []) hZ.1 hZ.2.1 (by decide +kernel) kX8_put fwX8 iwX8 lwX8 trivial (Nat.le_of_ble_eq_true rfl) (fun q h => absurd h List.not_mem_nil) ((v_put _))
theorem gX8_80 {l : Launch} {Z : ZT} (hZ : ZOk Z) {d : Nat} (hd : 2 ≤ d) : CallI l Z RX8 d (80, some 8, c_put) := fun p e s m args below meth c Q cc nL x0 X => callOk_V X (imX8_put hZ) (by decide) rfl mlX8_80 iw_yX8_put vw_yX8_put nw_RX8 cw_yX8_put ⟨by decide +kernel, by decide +kernel, by decide +kernel⟩ ⟨hd, by decide⟩
/-- fix(s, n): the length is that of the number in the first n limbs -/
def c_fix : Call := ⟨Nat × Nat × Nat, 3, (fun (s, k, v) vs M => vs = [.inr (.inr 50), .inl (s : Int), .inl (k : Int)] ∧ s < 37 ∧ 420 * s + k ≤ 15540 ∧ v < 32768 ^ k ∧ ∀ i, i < k → M 51 (420 * s + i) = (dg v i : Int)), .inl (fun (s, _, v) _ M M' => M' = up2 M 52 s (nd v : Int))⟩
theorem v_fix (n : Nn) : Ver tX8_fix (fdX8, icX8, lcX8, []) 0 4 n c_fix := by
  rintro ⟨s, k, v⟩ vs M0 ⟨rfl, hs, hk, hv, hd⟩ aw run
  have hl2 : lnF n 51 = 15540 := rfl
  have hl : lnF n 52 = 37 := rfl
  have hvk := nd_le.mpr hv
  have loop : ∀ j : Nat, nd v ≤ j → j ≤ k → aw 2 [some (.inr (.inr 50)), some (.inl (s : Int)), some (.inl (k : Int)), some (.inl (j : Int))] [] M0 := by
    intro j
    induction j with
    | zero =>
      intro h1 h2
      have h0 : nd v = 0 := by omega
      refine run 30 [2] _ _ _ _ ?_
      repeat' first | intro h | refine And.intro ?_ ?_
      all_goals first | omega | rfl | trivial | skip
      refine Or.inl ?_
      show up2 M0 52 s 0 = up2 M0 52 s (nd v : Int)
      rw [h0]; rfl
    | succ j ih =>
      intro h1 h2
      have e2 : (420 * (s : Int) + ((j + 1 : Nat) : Int) - 1).toNat = 420 * s + j := by omega
      have hj := hd j (by omega)
      have hlt := dg_lt v j
      refine run 30 [2] _ _ _ _ ?_
      repeat' first | intro h | refine And.intro ?_ ?_
      all_goals try rw [e2] at *
      all_goals first | omega | rfl | trivial | skip
      · refine Or.inl ?_
        show up2 M0 52 s ((j + 1 : Nat) : Int) = up2 M0 52 s (nd v : Int)
        rw [nd_up h1 (by omega)]
      · rw [show ((j + 1 : Nat) : Int) + -1 = (j : Int) by omega]
        exact ih (nd_dn h1 (by omega)) (by omega)
  change aw 0 [some (.inr (.inr 50)), some (.inl (s : Int)), some (.inl (k : Int)), none] [] M0
  refine run 2 [2] _ _ _ _ ?_
  exact ⟨loop k hvk (Nat.le_refl _), trivial⟩
theorem imX8_fix {l : Launch} {Z : ZT} (hZ : ZOk Z) : Impl l Z yX8_fix cX8_fix 4 none 1 c_fix := mkImpl (rt := 0) (CL := []) hZ.1 hZ.2.1 (by decide +kernel) kX8_fix fwX8 iwX8 lwX8 trivial (Nat.le_of_ble_eq_true rfl) (fun q h => absurd h List.not_mem_nil) ((v_fix _))
theorem gX8_85 {l : Launch} {Z : ZT} (hZ : ZOk Z) {d : Nat} (hd : 2 ≤ d) : CallI l Z RX8 d (85, some 8, c_fix) := fun p e s m args below meth c Q cc nL x0 X => callOk_V X (imX8_fix hZ) (by decide) rfl mlX8_85 iw_yX8_fix vw_yX8_fix nw_RX8 cw_yX8_fix ⟨by decide +kernel, by decide +kernel, by decide +kernel⟩ ⟨hd, by decide⟩
