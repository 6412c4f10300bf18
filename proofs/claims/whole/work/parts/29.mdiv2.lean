/-! ===== the reference: divide ===== -/
set_option maxHeartbeats 4000000 in
theorem v_divide (n : Nn) : Ver tX8_divide P_div 0 20 n c_divide := by
  rintro ⟨a, b, q, r, v, w⟩ vs M0 ⟨rfl, ha, hb, hq, hr, haq, hbq, har, hbr, hqr, hv, hnv, hw, hnw, hw0⟩ aw run
  have hl : lnF n 52 = 37 := rfl
  have hwp : 0 < w := Nat.pos_of_ne_zero hw0
  have hn0 : nd w ≠ 0 := fun e => hw0 (nd_z.mp e)
  have hvw : v / w < 32768 ^ nd v := Nat.lt_of_le_of_lt (Nat.div_le_self _ _) (nd_lt v)
  have hb1 := dg_lt w (nd w - 1)
  have hbz := dgZ_rng w ((nd w : Int) - 2)
  have hbt := dg_top hw0
  obtain ⟨BL, eBL⟩ : ∃ BL : Nat, (BL : Int) = (dg w (nd w - 1) : Int) * 32768 + dgZ w ((nd w : Int) - 2) + 1 := ⟨((dg w (nd w - 1) : Int) * 32768 + dgZ w ((nd w : Int) - 2) + 1).toNat, by omega⟩
  -- the guess takes no more than there is
  have guess : ∀ R : Nat, R < w * 32768 → (((dg R (nd w) : Int) * 32768 + (dg R (nd w - 1) : Int)) * 32768 + dgZ R ((nd w : Int) - 2)).toNat / BL * w ≤ R := by
    intro R hR
    have g1 := dgZ_rng R ((nd w : Int) - 2)
    have := gs_le (R := R) (w := w) (x := (dgZ R ((nd w : Int) - 2)).toNat) (y := (dgZ w ((nd w : Int) - 2)).toNat) hw0 hR (fun h => by
      rw [dgZ_neg (by omega), dgZ_neg (by omega)]
      exact ⟨rfl, rfl⟩) (fun h => by
      rw [show (nd w : Int) - 2 = ((nd w - 2 : Nat) : Int) by omega, dgZ_n, dgZ_n]
      exact ⟨rfl, rfl⟩)
    rw [show (((dg R (nd w) : Int) * 32768 + (dg R (nd w - 1) : Int)) * 32768 + dgZ R ((nd w : Int) - 2)).toNat = (dg R (nd w) * 32768 + dg R (nd w - 1)) * 32768 + (dgZ R ((nd w : Int) - 2)).toNat by omega, show BL = dg w (nd w - 1) * 32768 + (dgZ w ((nd w : Int) - 2)).toNat + 1 by omega]
    exact this
  have outer : ∀ (i : Nat) (M : Mem) (o10 o11 o12 o13 o14 o15 o16 o17 o18 o19 : Option AV), i ≤ nd v → MH M a v → MH M b w → MH M r (v / 32768 ^ i % w) → Fr2 M0 M q r → (∀ j, i ≤ j → j < nd v → M 51 (420 * q + j) = (dg (v / w) j : Int)) → aw 59 (dvL a b q r (nd w) (nd v) BL ((i : Int) - 1) [o10, o11, o12, o13, o14, o15, o16, o17, o18, o19]) [] M := by
    intro i
    induction i with
    | zero =>
      intro M o10 o11 o12 o13 o14 o15 o16 o17 o18 o19 hi hA hB hR hF hD
      refine run 60 [59] _ _ _ _ ?_
      repeat' first | intro h | refine And.intro ?_ ?_
      all_goals first | omega | rfl | trivial | skip
      refine ⟨(q, nd v, v / w), ⟨rfl, hq, by omega, hvw, fun j hj => hD j (by omega) hj⟩, ?_⟩
      rintro M2 rfl
      have hR : MH M r (v % w) := by simpa using hR
      refine Or.inl (And.intro (MH_fix (fun j hj => hD j (by omega) hj) hvw) (And.intro ?_ (hF.q FrM.len)))
      have := Nat.mod_lt v hwp
      exact FrM.len.keep (fun e => hqr e.symm) hR (by have := nd_mono (Nat.le_of_lt this); omega)
    | succ i ih =>
      intro M o10 o11 o12 o13 o14 o15 o16 o17 o18 o19 hi hA hB hR hF hD
      have hdi := dg_lt v i
      have hR0 := Nat.mod_lt (v / 32768 ^ (i + 1)) hwp
      obtain ⟨R0, eR0⟩ : ∃ R0 : Nat, R0 = v / 32768 ^ (i + 1) % w := ⟨_, rfl⟩
      obtain ⟨R1, eR1⟩ : ∃ R1 : Nat, R1 = R0 * 32768 + dg v i := ⟨_, rfl⟩
      have hd1 : R1 / w = dg (v / w) i := by rw [eR1, eR0]; exact ld_dig v w i hwp
      have hr1 : R1 % w = v / 32768 ^ i % w := by rw [eR1, eR0]; exact ld_rest v w i
      have hR1 : R1 < w * 32768 := by
        have := Nat.mul_le_mul_right 32768 (show R0 + 1 ≤ w by omega)
        omega
      rw [← eR0] at hR
      have hnR0 : nd R0 ≤ nd w := nd_mono (by omega)
      -- the digit's loop
      have whil : ∀ (f R D : Nat) (M : Mem) (o11 o12 o13 o14 o15 o16 o17 o18 o19 : Option AV), R < f → D * w + R = R1 → MH M a v → MH M b w → MH M r R → Fr2 M0 M q r → (∀ j, i + 1 ≤ j → j < nd v → M 51 (420 * q + j) = (dg (v / w) j : Int)) → aw 134 (dvL a b q r (nd w) (nd v) BL (i : Int) [some (.inl (D : Int)), o11, o12, o13, o14, o15, o16, o17, o18, o19]) [] M := by
        intro f
        induction f with
        | zero => intro R D M o11 o12 o13 o14 o15 o16 o17 o18 o19 hf; omega
        | succ f ihf =>
          intro R D M o11 o12 o13 o14 o15 o16 o17 o18 o19 hf hDR hA hB hR hF hD
          have hRw : R < w * 32768 := by omega
          have hnR : nd R ≤ nd w + 1 := nd_le.mpr (by
            rw [nn_succ]
            exact Nat.lt_trans hRw (Nat.mul_lt_mul_of_pos_right (nd_lt w) (by decide)))
          have hDlt : D < 32768 := by
            rcases Nat.lt_or_ge D 32768 with h | h
            · exact h
            · have := Nat.mul_le_mul_right w h
              rw [Nat.mul_comm 32768] at this
              omega
          have hR1' := hR.1
          -- the multiple goes
          have subt : ∀ (g : Nat) (ab : Int), g * w ≤ R → 0 < g → g < 32768 → ∀ (m k : Nat) (M1 : Mem) (o18 o19 : Option AV), k + m = nd R → M1 52 r = (nd R : Int) → (∀ j, j < k → M1 51 (420 * r + j) = (dg (R - g * w) j : Int)) → (∀ j, k ≤ j → j < nd R → M1 51 (420 * r + j) = (dg R j : Int)) → FrM M M1 r → aw 230 (dvL a b q r (nd w) (nd v) BL (i : Int) [some (.inl ((D + g : Nat) : Int)), some (.inr (.inl ab)), none, some (.inl (g : Int)), some (.inr (.inl (cyM (R - g * w) g w k : Int))), none, some (.inl (nd R : Int)), some (.inl (k : Int)), o18, o19]) [] M1 := by
            intro g ab hg hg0 hg1 m
            have hT : R - g * w + g * w = R := by omega
            have hTl : R - g * w < 32768 ^ nd R := Nat.lt_of_le_of_lt (Nat.sub_le _ _) (nd_lt R)
            induction m with
            | zero =>
              intro k M1 o18 o19 hk hL hlo hhi hFr
              obtain rfl : k = nd R := by omega
              refine run 60 [134, 230] _ _ _ _ ?_
              repeat' first | intro h | refine And.intro ?_ ?_
              all_goals first | omega | rfl | trivial | skip
              refine ⟨(r, nd R, R - g * w), ⟨rfl, hr, by omega, hTl, hlo⟩, ?_⟩
              rintro M2 rfl
              refine And.intro ?_ trivial
              have hFr2 : FrM M (up2 M1 52 r (nd (R - g * w) : Int)) r := hFr.tr FrM.len
              have hgw : 0 < g * w := Nat.mul_pos hg0 hwp
              refine ihf (R - g * w) (D + g) _ _ _ _ _ _ _ _ _ _ (by omega) ?_ (hFr2.keep har hA (by omega)) (hFr2.keep hbr hB (by omega)) (MH_fix hlo hTl) (hF.r hFr2) (fun j h1 h2 => ?_)
              · rw [Nat.add_mul]; omega
              · rw [hFr2.2.2 _ (by omega)]
                exact hD j h1 h2
            | succ m ihm =>
              intro k M1 o18 o19 hk hL hlo hhi hFr
              have g1 := dg_lt (R - g * w) k
              have g2 := dg_lt w k
              have g3 := dg_lt R k
              have c1 := cyM_le (R - g * w) g w k
              have c2 := cyM_le (R - g * w) g w (k + 1)
              have s1 := cyM_d (R - g * w) g w k
              have s2 := cyM_s (R - g * w) g w k
              rw [hT] at s1
              have hpp := Nat.mul_le_mul (show g ≤ 32768 by omega) (show dg w k ≤ 32768 by omega)
              have hB1 : MH M1 b w := hFr.keep hbr hB (by omega)
              have fin : ∀ (x : Int) (o18 o19 : Option AV), x = (dg (R - g * w) k : Int) → aw 230 (dvL a b q r (nd w) (nd v) BL (i : Int) [some (.inl ((D + g : Nat) : Int)), some (.inr (.inl ab)), none, some (.inl (g : Int)), some (.inr (.inl (cyM (R - g * w) g w (k + 1) : Int))), none, some (.inl (nd R : Int)), some (.inl ((k : Int) + 1)), o18, o19]) [] (up2 M1 51 (420 * r + k) x) := by
                intro x o18 o19 hx
                rw [hx, show ((k : Int) + 1) = ((k + 1 : Nat) : Int) by omega]
                have hFp : FrM M1 (up2 M1 51 (420 * r + k) (dg (R - g * w) k : Int)) r := FrM.put (by omega)
                refine ihm (k + 1) _ _ _ (by omega) ?_ (fun j hj => ?_) (fun j h1 h2 => ?_) (hFr.tr hFp)
                · rw [up2_i (by decide)]; exact hL
                · by_cases hj2 : j = k
                  · rw [hj2, up2_s]
                  · rw [up2_k (by omega)]; exact hlo j (by omega)
                · rw [up2_k (by omega)]; exact hhi j (by omega) h2
              generalize cyM (R - g * w) g w (k + 1) = cy1 at *
              generalize cyM (R - g * w) g w k = cy0 at *
              generalize dg (R - g * w) k = tk at *
              obtain ⟨pp, epp⟩ : ∃ pp : Nat, pp = g * dg w k := ⟨_, rfl⟩
              have epI : (g : Int) * (dg w k : Int) = (pp : Int) := by rw [epp, Int.natCast_mul]
              rw [← epp] at s1 s2 hpp
              refine run 80 [134, 230] _ _ _ _ ?_
              repeat' first | intro h | refine And.intro ?_ ?_
              all_goals first | omega | rfl | trivial | skip
              refine ⟨(r, (k : Int), nd R), ⟨rfl, hr, ⟨by omega, by omega⟩, hL, by omega⟩, ?_⟩
              rintro x M2 ⟨rfl, rfl⟩
              rw [if_neg (by omega), Int.toNat_natCast, hhi k (by omega) (by omega)]
              refine And.intro ⟨by omega, by omega⟩ (And.intro ⟨by omega, by omega⟩ (And.intro rfl ?_))
              refine ⟨(b, (k : Int), nd w), ⟨rfl, hb, ⟨by omega, by omega⟩, hB1.1, by omega⟩, ?_⟩
              rintro x M3 ⟨rfl, rfl⟩
              rw [atR_eq hB1, dgZ_n]
              have z0 : (((0 : Fin 2).val : Nat) : Int) = 0 := rfl
              have hlc : ∀ y : Int, (0 ≤ lc3 y 0 ↔ 0 ≤ y) ∧ -1 ≤ lc3 y 0 ∧ lc3 y 0 ≤ 1 := by
                intro y
                unfold lc3
                split
                · omega
                · split <;> omega
              have hl3 := hlc ((dg R k : Int) - (pp : Int) - (cy0 : Int))
              refine And.intro ⟨by omega, by omega⟩ ?_
              conv => whnf
              rw [epI, z0]
              refine And.intro ⟨⟨by omega, by omega⟩, ⟨by omega, by omega⟩⟩ ?_
              refine And.intro ⟨⟨by omega, by omega⟩, ⟨by omega, by omega⟩⟩ (And.intro (fun hge => ?_) (fun hlt => ?_))
              · refine And.intro rfl ⟨(r, k, _), ⟨rfl, by omega⟩, ?_⟩
                rintro M4 rfl
                refine And.intro ?_ trivial
                have := fin ((dg R k : Int) - (pp : Int) - (cy0 : Int) + 0 * 32768) (some (.inr (.inl ((dg R k : Int) - (pp : Int) - (cy0 : Int))))) none (by omega)
                rw [show (cy1 : Int) = 0 by omega] at this
                exact this
              · have z1 : (((1 : Fin 2).val : Nat) : Int) = 1 := rfl
                have e7 : (-((dg R k : Int) - (pp : Int) - (cy0 : Int)) + 32768 - 1) / 32768 = (cy1 : Int) := by omega
                conv => whnf
                rw [z1]
                refine And.intro ⟨by omega, by omega, ⟨by omega, by omega⟩, ⟨by omega, by omega⟩⟩ ?_
                rw [e7]
                refine And.intro rfl ⟨(r, k, _), ⟨rfl, by omega⟩, ?_⟩
                rintro M4 rfl
                refine And.intro ?_ trivial
                exact fin ((dg R k : Int) - (pp : Int) - (cy0 : Int) + (cy1 : Int) * 32768) (some (.inr (.inl ((dg R k : Int) - (pp : Int) - (cy0 : Int))))) none (by omega)
          refine run 60 [59, 134, 230] _ _ _ _ ?_
          repeat' first | intro h | refine And.intro ?_ ?_
          all_goals first | omega | rfl | trivial | skip
          refine ⟨(r, b, R, w), ⟨rfl, hr, hb, hR, by omega, hB, by omega⟩, ?_⟩
          rintro x M1 ⟨rfl, rfl⟩
          have hcm : (cm3 R w < 0 ↔ R < w) ∧ -1 ≤ cm3 R w ∧ cm3 R w ≤ 1 := by
            unfold cm3
            split
            · omega
            · split <;> omega
          refine And.intro ⟨⟨by omega, by omega⟩, ⟨by omega, by omega⟩⟩ (And.intro (fun hlt => ?_) (fun hge => ?_))
          · refine And.intro rfl ⟨(q, i, (D : Int)), ⟨rfl, by omega⟩, ?_⟩
            rintro M2 rfl
            refine And.intro ?_ trivial
            have hRw2 : R < w := hcm.1.mp hlt
            have eD : D = R1 / w := by
              rw [← hDR, Nat.mul_comm, Nat.mul_add_div hwp, Nat.div_eq_of_lt hRw2]
              rfl
            have eR : R = R1 % w := by
              rw [← hDR, Nat.mul_comm, Nat.mul_add_mod, Nat.mod_eq_of_lt hRw2]
            have hFq : FrM M1 (up2 M1 51 (420 * q + i) (D : Int)) q := FrM.put (by omega)
            refine ih _ _ _ _ _ _ _ _ _ _ _ (by omega) (hFq.keep haq hA (by omega)) (hFq.keep hbq hB (by omega)) ?_ (hF.q hFq) ?_
            · rw [← hr1, ← eR]
              exact hFq.keep (fun e => hqr e.symm) hR (by omega)
            · intro j h1 h2
              by_cases hj : j = i
              · rw [hj, up2_s, eD, hd1]
              · rw [up2_k (by omega)]
                exact hD j (by omega) h2
          · have hwR : w ≤ R := by have := hcm.1; omega
            have d1 := dg_lt R (nd w)
            have d2 := dg_lt R (nd w - 1)
            have d3 := dgZ_rng R ((nd w : Int) - 2)
            have hgs := guess R hRw
            obtain ⟨ab, eab⟩ : ∃ ab : Int, ab = ((dg R (nd w) : Int) * 32768 + (dg R (nd w - 1) : Int)) * 32768 + dgZ R ((nd w : Int) - 2) := ⟨_, rfl⟩
            rw [← eab] at hgs
            have hab : 0 ≤ ab ∧ ab < 40000000000000 := by omega
            obtain ⟨g0, eg0⟩ : ∃ g0 : Nat, g0 = ab.toNat / BL := ⟨_, rfl⟩
            rw [← eg0] at hgs
            have egI : ab / (BL : Int) = (g0 : Int) := by rw [eg0, Int.natCast_ediv, Int.toNat_of_nonneg hab.1]
            have hlt : ∀ g : Nat, g * w ≤ R → g < 32768 := by
              intro g hg
              rcases Nat.lt_or_ge g 32768 with h | h
              · exact h
              · have := Nat.mul_le_mul_right w h
                rw [Nat.mul_comm 32768] at this
                omega
            have hg1 := hlt g0 hgs
            have go : ∀ g : Nat, g * w ≤ R → 0 < g → aw 230 (dvL a b q r (nd w) (nd v) BL (i : Int) [some (.inl ((D + g : Nat) : Int)), some (.inr (.inl ab)), none, some (.inl (g : Int)), some (.inr (.inl 0)), none, some (.inl (nd R : Int)), some (.inl 0), o18, o19]) [] M1 := by
              intro g h1 h2
              have := subt g ab h1 h2 (hlt g h1) (nd R) 0 M1 o18 o19 (by omega) hR1' (fun j hj => by omega) (fun j _ hj => hR.2 j hj) (FrM.rf _ _)
              rw [cyM_0] at this
              exact this
            refine And.intro rfl ⟨(r, (nd w : Int), nd R), ⟨rfl, hr, ⟨by omega, by omega⟩, hR1', by omega⟩, ?_⟩
            rintro x M2 ⟨rfl, rfl⟩
            rw [atR_eq hR, dgZ_n]
            refine And.intro ⟨by omega, by omega⟩ (And.intro rfl ?_)
            rw [show (nd w : Int) - 1 = ((nd w - 1 : Nat) : Int) by omega]
            refine ⟨(r, ((nd w - 1 : Nat) : Int), nd R), ⟨rfl, hr, ⟨by omega, by omega⟩, hR1', by omega⟩, ?_⟩
            rintro x M3 ⟨rfl, rfl⟩
            rw [atR_eq hR, dgZ_n]
            refine And.intro ⟨by omega, by omega⟩ (And.intro rfl ?_)
            refine ⟨(r, (nd w : Int) - 2, nd R), ⟨rfl, hr, ⟨by omega, by omega⟩, hR1', by omega⟩, ?_⟩
            rintro x M4 ⟨rfl, rfl⟩
            rw [atR_eq hR]
            refine And.intro ⟨by omega, by omega⟩ ?_
            conv => whnf
            rw [← eab]
            refine And.intro ⟨by omega, by omega, ⟨by omega, by omega⟩, ⟨by omega, by omega⟩⟩ ?_
            rw [egI]
            refine And.intro ⟨⟨by omega, by omega⟩, ⟨by omega, by omega⟩⟩ (And.intro (fun hne => ?_) (fun heq => ?_))
            · refine And.intro rfl (And.intro ⟨rfl, by omega, by omega⟩ (And.intro ?_ trivial))
              rw [Int.toNat_natCast, hR1']
              exact go g0 hgs (by omega)
            · refine And.intro rfl (And.intro ⟨rfl, by omega, by omega⟩ (And.intro ?_ trivial))
              rw [Int.toNat_natCast, hR1']
              exact go 1 (by omega) (by omega)
      -- the shift
      have shft : ∀ (k : Nat) (M : Mem) (o11 o12 o13 o14 o15 o16 o17 o18 o19 : Option AV), k ≤ nd R0 → MH M a v → MH M b w → M 52 r = (nd R0 : Int) → (∀ j, j < k → M 51 (420 * r + j) = (dg R0 j : Int)) → (∀ j, k ≤ j → j < nd R0 → M 51 (420 * r + (j + 1)) = (dg R0 j : Int)) → Fr2 M0 M q r → (∀ j, i + 1 ≤ j → j < nd v → M 51 (420 * q + j) = (dg (v / w) j : Int)) → aw 73 (dvL a b q r (nd w) (nd v) BL (i : Int) [some (.inl (k : Int)), o11, o12, o13, o14, o15, o16, o17, o18, o19]) [] M := by
        intro k
        induction k with
        | zero =>
          intro M o11 o12 o13 o14 o15 o16 o17 o18 o19 hk hA hB hL hlo hhi hF hD
          refine run 60 [73, 134] _ _ _ _ ?_
          repeat' first | intro h | refine And.intro ?_ ?_
          all_goals first | omega | rfl | trivial | skip
          refine ⟨(a, (i : Int), nd v), ⟨rfl, ha, ⟨by omega, by omega⟩, hA.1, by omega⟩, ?_⟩
          rintro x M1 ⟨rfl, rfl⟩
          rw [atR_eq hA, dgZ_n]
          refine And.intro rfl ⟨(r, 0, (dg v i : Int)), ⟨rfl, by omega⟩, ?_⟩
          rintro M2 rfl
          have hdg : ∀ j, j < nd R0 + 1 → up2 M1 51 (420 * r + 0) (dg v i : Int) 51 (420 * r + j) = (dg R1 j : Int) := by
            intro j hj
            rw [eR1]
            cases j with
            | zero => rw [up2_s, sh_dg0 _ _ hdi]
            | succ j => rw [up2_k (by omega), sh_dgs _ _ _ hdi]; exact hhi j (by omega) (by omega)
          have hlt1 : R1 < 32768 ^ (nd R0 + 1) := by rw [eR1]; exact sh_lt (nd_lt R0) hdi
          have hL2 : up2 M1 51 (420 * r + 0) (dg v i : Int) 52 r = (nd R0 : Int) := by rw [up2_i (by decide)]; exact hL
          repeat' first | intro h | refine And.intro ?_ ?_
          all_goals try simp only [Int.toNat_natCast] at *
          all_goals first | omega | rfl | trivial | skip
          rw [hL2]
          refine ⟨(r, nd R0 + 1, R1), ⟨rfl, hr, by omega, hlt1, hdg⟩, ?_⟩
          rintro M3 rfl
          refine And.intro ?_ trivial
          have hFr : FrM M1 (up2 (up2 M1 51 (420 * r + 0) (dg v i : Int)) 52 r (nd R1 : Int)) r := (FrM.put (by omega)).tr FrM.len
          refine whil (R1 + 1) R1 0 _ _ _ _ _ _ _ _ _ _ (by omega) (by omega) (hFr.keep har hA (by omega)) (hFr.keep hbr hB (by omega)) (MH_fix hdg hlt1) (hF.r hFr) (fun j h1 h2 => ?_)
          rw [hFr.2.2 _ (by omega)]
          exact hD j h1 h2
        | succ k ihk =>
          intro M o11 o12 o13 o14 o15 o16 o17 o18 o19 hk hA hB hL hlo hhi hF hD
          refine run 60 [73, 134] _ _ _ _ ?_
          repeat' first | intro h | refine And.intro ?_ ?_
          all_goals first | omega | rfl | trivial | skip
          rw [show ((k + 1 : Nat) : Int) - 1 = (k : Int) by omega]
          refine ⟨(r, (k : Int), nd R0), ⟨rfl, hr, ⟨by omega, by omega⟩, hL, by omega⟩, ?_⟩
          rintro x M1 ⟨rfl, rfl⟩
          rw [if_neg (by omega), Int.toNat_natCast, hlo k (by omega)]
          refine And.intro rfl ⟨(r, k + 1, (dg R0 k : Int)), ⟨rfl, by omega⟩, ?_⟩
          rintro M2 rfl
          refine And.intro ?_ trivial
          rw [show ((k + 1 : Nat) : Int) + -1 = (k : Int) by omega]
          have hFr : FrM M1 (up2 M1 51 (420 * r + (k + 1)) (dg R0 k : Int)) r := FrM.put (by omega)
          refine ihk _ _ _ _ _ _ _ _ _ _ (by omega) (hFr.keep har hA (by omega)) (hFr.keep hbr hB (by omega)) ?_ (fun j hj => ?_) (fun j h1 h2 => ?_) (hF.r hFr) (fun j h1 h2 => ?_)
          · rw [up2_i (by decide)]; exact hL
          · rw [up2_k (by omega)]; exact hlo j (by omega)
          · by_cases hj : j = k
            · rw [hj, up2_s]
            · rw [up2_k (by omega)]; exact hhi j (by omega) h2
          · rw [hFr.2.2 _ (by omega)]
            exact hD j h1 h2
      rw [show (((i + 1 : Nat) : Int) - 1) = (i : Int) by omega]
      have h1 := hR.1
      refine run 60 [59, 73] _ _ _ _ ?_
      repeat' first | intro h | refine And.intro ?_ ?_
      all_goals try simp only [Int.toNat_natCast] at *
      all_goals first | omega | rfl | trivial | skip
      rw [h1]
      exact shft (nd R0) M o11 o12 o13 o14 o15 o16 o17 o18 o19 (Nat.le_refl _) hA hB h1 hR.2 (fun j h1 h2 => by omega) hF hD
  have h1 := hv.1
  have h2 := hw.1
  have hA1 : MH (up2 M0 52 r 0) a v := FrM.len.keep har hv (by omega)
  have hB1 : MH (up2 M0 52 r 0) b w := FrM.len.keep hbr hw (by omega)
  change aw 0 [some (.inr (.inr 50)), some (.inl (a : Int)), some (.inl (b : Int)), some (.inl (q : Int)), some (.inl (r : Int)), none, none, none, none, none, none, none, none, none, none, none, none, none, none, none] [] M0
  refine run 60 [59] _ _ _ _ ?_
  repeat' first | intro h | refine And.intro ?_ ?_
  all_goals try simp only [Int.toNat_natCast] at *
  all_goals first | omega | rfl | trivial | skip
  refine ⟨(b, M0 52 b - 1, nd w), ⟨rfl, hb, ⟨by omega, by omega⟩, hB1.1, by omega⟩, ?_⟩
  rintro x M1 ⟨rfl, rfl⟩
  rw [atR_eq hB1, h2, show (nd w : Int) - 1 = ((nd w - 1 : Nat) : Int) by omega, dgZ_n]
  refine And.intro ⟨by omega, by omega⟩ (And.intro rfl ?_)
  refine ⟨(b, (nd w : Int) - 2, nd w), ⟨rfl, hb, ⟨by omega, by omega⟩, hB1.1, by omega⟩, ?_⟩
  rintro x M1 ⟨rfl, rfl⟩
  rw [atR_eq hB1]
  refine And.intro ⟨by omega, by omega⟩ (And.intro ?_ trivial)
  have e9 : (dg w (nd w - 1) : Int) * 32768 + dgZ w ((nd w : Int) - 2) + ((1 : Fin 2).val : Int) = (BL : Int) := eBL.symm
  rw [e9, h1]
  refine outer (nd v) _ none none none none none none none none none none (Nat.le_refl _) hA1 hB1 ?_ ((Fr2.rf _ _ _).r FrM.len) (fun j h1 h2 => by omega)
  rw [ld_top]
  exact ⟨up2_s, fun i hi => by rw [nd_0] at hi; omega⟩
theorem imX8_divide {l : Launch} {Z : ZT} (hZ : ZOk Z) : Impl l Z yX8_divide cX8_divide 20 none 3 c_divide := mkImpl (rt := 0) (CL := [(76, some 8, c_atR), (80, some 8, c_put), (85, some 8, c_fix), (91, some 8, c_compared)]) hZ.1 hZ.2.1 (by decide +kernel) kX8_divide fwX8 iwX8 lwX8 trivial (Nat.le_of_ble_eq_true rfl) (List.forall_mem_cons.mpr ⟨gX8_76_R hZ (by decide), List.forall_mem_cons.mpr ⟨gX8_80 hZ (by decide), List.forall_mem_cons.mpr ⟨gX8_85 hZ (by decide), List.forall_mem_cons.mpr ⟨gX8_91 hZ (by decide), fun q h => absurd h List.not_mem_nil⟩⟩⟩⟩) ((v_divide _))
theorem gX8_97 {l : Launch} {Z : ZT} (hZ : ZOk Z) {d : Nat} (hd : 4 ≤ d) : CallI l Z RX8 d (97, some 8, c_divide) := fun p e s m args below meth c Q cc nL x0 X => callOk_V X (imX8_divide hZ) (by decide) rfl mlX8_97 iw_yX8_divide vw_yX8_divide nw_RX8 cw_yX8_divide ⟨by decide +kernel, by decide +kernel, by decide +kernel⟩ ⟨hd, by decide⟩
