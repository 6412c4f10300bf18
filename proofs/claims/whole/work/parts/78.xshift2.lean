/-! ===== the class: shiftUp ===== -/
/-- limbAt(i) for any i: the limb at that index alone is known -/
def c_limbAtZ : Call := ⟨Nat × Int × Nat × Nat, 2, (fun (r, i, v, _) vs M => vs = [.inr (.inr r), .inl i] ∧ isRw r ∧ inR i ∧ M r 1 = (nd v : Int) ∧ nd v ≤ 130 ∧ (0 ≤ i → i < (nd v : Int) → M (r + 1) i.toNat = (dg v i.toNat : Int))), .inr (fun (_, i, v, _) _ M x M' => x = dgZ v i ∧ M' = M)⟩
theorem v_limbAtZ (n : Nn) : Ver tX5_limbAt (fdX5, icX5, lcX5, []) 1 2 n c_limbAtZ := by
  rintro ⟨r, i, v, z⟩ vs M0 ⟨rfl, hr, hi, h1, hn, hv⟩ aw run
  have hl := hr.ln n
  unfold inR at hi
  change aw 0 [some (.inr (.inr r)), some (.inl i)] [] M0
  refine run 30 [] _ _ _ _ ?_
  refine And.intro ⟨⟨by omega, by omega⟩, ⟨by omega, by omega⟩⟩ (And.intro (fun c1 => ?_) (fun c2 => ?_))
  · exact Or.inl ⟨(dgZ_neg (by omega)).symm, rfl⟩
  refine And.intro hr.kd ?_
  refine And.intro ⟨⟨by omega, by omega⟩, ⟨by omega, by omega⟩⟩ (And.intro (fun c1 => ?_) (fun c2 => ?_))
  · refine Or.inl ⟨?_, rfl⟩
    unfold dgZ
    rw [if_neg (by omega), dg_z (by omega)]
    rfl
  refine And.intro hr.kd (And.intro ⟨hr.ka, by omega, by omega⟩ (Or.inl ⟨?_, rfl⟩))
  show M0 (r + 1) i.toNat = dgZ v i
  unfold dgZ
  rw [if_neg (by omega)]
  exact hv (by omega) (by omega)
theorem imX5_limbAt_Z {l : Launch} {Z : ZT} (hZ : ZOk Z) : Impl l Z yX5_limbAt cX5_limbAt 2 (some .int) 1 c_limbAtZ := mkImpl (rt := 1) (CL := []) hZ.1 hZ.2.1 (by decide +kernel) kX5_limbAt fwX5 iwX5 lwX5 trivial (Nat.le_of_ble_eq_true rfl) (fun q h => absurd h List.not_mem_nil) ((v_limbAtZ _))
theorem gX0_50_Z {l : Launch} {Z : ZT} (hZ : ZOk Z) {d : Nat} (hd : 2 ≤ d) : CallI l Z RX0 d (50, some 5, c_limbAtZ) := fun p e s m args below meth c Q cc nL x0 X => callOk_V X (imX5_limbAt_Z hZ) (by decide) rfl mlX0_50 iw_yX5_limbAt vw_yX5_limbAt nw_RX5 cw_yX5_limbAt ⟨by decide +kernel, by decide +kernel, by decide +kernel⟩ ⟨hd, by decide⟩
theorem gX5_33_Z {l : Launch} {Z : ZT} (hZ : ZOk Z) {d : Nat} (hd : 2 ≤ d) : CallI l Z RX5 d (33, some 5, c_limbAtZ) := fun p e s m args below meth c Q cc nL x0 X => callOk_V X (imX5_limbAt_Z hZ) (by decide) rfl mlX5_33 iw_yX5_limbAt vw_yX5_limbAt nw_RX5 cw_yX5_limbAt ⟨by decide +kernel, by decide +kernel, by decide +kernel⟩ ⟨hd, by decide⟩
