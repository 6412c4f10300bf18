/-! ===== the reference: a number out of the words ===== -/
/-- the words from f on tell the number v: how many limbs, then these -/
def WN (M : Mem) (o f L v : Nat) : Prop := M o f = (L : Int) ∧ v < 32768 ^ L ∧ ∀ i, i < L → M o (f + 1 + i) = (dg v i : Int)
/-- load(f, s) -/
def c_load : Call := ⟨Nat × Nat × Nat × Nat, 3, (fun (f, s, L, v) vs M => vs = [.inr (.inr 50), .inl (f : Int), .inl (s : Int)] ∧ s < 37 ∧ L ≤ 64 ∧ f + L < 400 ∧ WN M 60 f L v), .inl (fun (_, s, _, v) _ M M' => MH M' s v ∧ FrM M M' s)⟩
theorem v_load (n : Nn) : Ver tX8_load (fdX8, icX8, lcX8, [(80, some 8, c_put), (85, some 8, c_fix)]) 0 4 n c_load := by
  rintro ⟨f, s, L, v⟩ vs M0 ⟨rfl, hs, hL, hf, h1, h2, h3⟩ aw run
  have l60 : lnF n 60 = 400 := rfl
  have loop : ∀ (r i : Nat) (M : Mem), i + r = L → FrM M0 M s → (∀ j, j < i → M 51 (420 * s + j) = (dg v j : Int)) → aw 2 [some (.inr (.inr 50)), some (.inl (f : Int)), some (.inl (s : Int)), some (.inl (i : Int))] [] M := by
    intro r
    induction r with
    | zero =>
      intro i M hi hF hD
      obtain rfl : i = L := by omega
      have e60 : M 60 f = (i : Int) := by rw [hF.1 60 (by decide) (by decide)]; exact h1
      refine run 60 [2] _ _ _ _ ?_
      repeat' first | intro h | refine And.intro ?_ ?_
      all_goals try simp only [Int.toNat_natCast] at *
      all_goals first | omega | rfl | trivial | skip
      rw [e60]
      refine ⟨(s, i, v), ⟨rfl, hs, by omega, h2, hD⟩, ?_⟩
      rintro M2 rfl
      exact Or.inl (And.intro (MH_fix hD h2) (hF.tr FrM.len))
    | succ r ih =>
      intro i M hi hF hD
      have e60 : M 60 f = (L : Int) := by rw [hF.1 60 (by decide) (by decide)]; exact h1
      have e3 : M 60 (f + 1 + i) = (dg v i : Int) := by rw [hF.1 60 (by decide) (by decide)]; exact h3 i (by omega)
      have e4 : ((f : Int) + 1 + (i : Int)).toNat = f + 1 + i := by omega
      refine run 60 [2] _ _ _ _ ?_
      repeat' first | intro h | refine And.intro ?_ ?_
      all_goals try simp only [Int.toNat_natCast] at *
      all_goals first | omega | rfl | trivial | skip
      rw [e4, e3]
      refine ⟨(s, i, (dg v i : Int)), ⟨rfl, by omega⟩, ?_⟩
      rintro M3 rfl
      refine And.intro ?_ trivial
      rw [show (i : Int) + 1 = ((i + 1 : Nat) : Int) by omega]
      refine ih (i + 1) _ (by omega) (hF.tr (FrM.put (by omega))) ?_
      intro j hj
      by_cases hj2 : j = i
      · rw [hj2, up2_s]
      · rw [up2_k (by omega)]
        exact hD j (by omega)
  change aw 0 [some (.inr (.inr 50)), some (.inl (f : Int)), some (.inl (s : Int)), none] [] M0
  refine run 2 [2] _ _ _ _ ?_
  exact ⟨loop L 0 M0 (by omega) (FrM.rf _ _) (fun j hj => by omega), trivial⟩
theorem imX8_load {l : Launch} {Z : ZT} (hZ : ZOk Z) : Impl l Z yX8_load cX8_load 4 none 2 c_load := mkImpl (rt := 0) (CL := [(80, some 8, c_put), (85, some 8, c_fix)]) hZ.1 hZ.2.1 (by decide +kernel) kX8_load fwX8 iwX8 lwX8 trivial (Nat.le_of_ble_eq_true rfl) (List.forall_mem_cons.mpr ⟨gX8_80 hZ (by decide), List.forall_mem_cons.mpr ⟨gX8_85 hZ (by decide), fun q h => absurd h List.not_mem_nil⟩⟩) ((v_load _))
theorem gX8_191 {l : Launch} {Z : ZT} (hZ : ZOk Z) {d : Nat} (hd : 3 ≤ d) : CallI l Z RX8 d (191, some 8, c_load) := fun p e s m args below meth c Q cc nL x0 X => callOk_V X (imX8_load hZ) (by decide) rfl mlX8_191 iw_yX8_load vw_yX8_load nw_RX8 cw_yX8_load ⟨by decide +kernel, by decide +kernel, by decide +kernel⟩ ⟨hd, by decide⟩
