/-! ===== the class: shiftUp, trailingZeros ===== -/
/-- shiftUp(d, a, s): d may be a -/
def c_shiftUp : Call := ⟨Nat × Nat × Nat × Nat, 3, (fun (d, a, s, v) vs M => vs = [.inr (.inr d), .inr (.inr a), .inl (s : Int)] ∧ isRw d ∧ isRw a ∧ s ≤ 2000 ∧ XR M a v ∧ nd v + s / 15 + 1 ≤ 130), .inl (fun (d, _, s, v) _ M M' => XR M' d (v * 2 ^ s) ∧ (∀ j, j ≤ nd v + s / 15 → M' (d + 1) j = (dg (v * 2 ^ s) j : Int)) ∧ FrX M M' d)⟩
theorem su_val {v k r : Nat} (hk : k < 15) : bAnd (bOr ((dg v r : Int) * 2 ^ (k : Int).toNat) (dgZ v ((r : Int) - 1) / 2 ^ ((15 : Int) - (k : Int)).toNat)) 32767 = (dg (v * 2 ^ k) r : Int) := by
  have g1 := dg_lt v r
  have g2 := dgZ_rng v ((r : Int) - 1)
  have pk : 2 ^ k < 2 ^ 15 := Nat.pow_lt_pow_right (by decide) hk
  obtain ⟨y, ey⟩ : ∃ y : Nat, (y : Int) = dgZ v ((r : Int) - 1) := ⟨(dgZ v ((r : Int) - 1)).toNat, by omega⟩
  have hp15 : (32768 : Nat) = 2 ^ k * 2 ^ (15 - k) := pw_split (by omega)
  have hy2 : y / 2 ^ (15 - k) < 2 ^ k := by
    rw [Nat.div_lt_iff_lt_mul (Nat.pow_pos (by decide)), ← hp15]
    omega
  have hmul := Nat.mul_le_mul (show dg v r ≤ 32767 by omega) (show 2 ^ k ≤ 32768 by omega)
  have ebo := bOr_add (dg v r) k (y / 2 ^ (15 - k)) hy2 (by omega)
  have edig : (dg v r * 2 ^ k + y / 2 ^ (15 - k)) % 32768 = dg (v * 2 ^ k) r := by
    cases r with
    | zero =>
      have : y = 0 := by
        rw [dgZ_neg (by omega)] at ey
        omega
      rw [this, Nat.zero_div, Nat.add_zero, dg_up0]
    | succ i =>
      have : y = dg v i := by
        rw [show (((i + 1 : Nat) : Int) - 1) = (i : Int) by omega, dgZ_n] at ey
        omega
      rw [this, dg_up v k i hk]
  have eor : bOr ((dg v r : Int) * 2 ^ (k : Int).toNat) (dgZ v ((r : Int) - 1) / 2 ^ ((15 : Int) - (k : Int)).toNat) = ((dg v r * 2 ^ k + y / 2 ^ (15 - k) : Nat) : Int) := by
    rw [← ebo, ← ey, Int.toNat_natCast, show ((15 : Int) - (k : Int)).toNat = 15 - k by omega, Int.natCast_mul, Int.natCast_ediv]
    simp
  rw [eor, bAnd_15, ← edig, Int.natCast_emod]
  rfl
theorem v_shiftUp (n : Nn) : Ver tX0_shiftUp (fdX0, icX0, lcX0, [(50, some 5, c_limbAtZ), (61, none, c_fill n), (54, some 5, c_trim)]) 0 8 n c_shiftUp := by
  rintro ⟨d, a, s, v⟩ vs M0 ⟨rfl, hd, ha, hs, hv, hn⟩ aw run
  have hl := hd.ln n
  have h1 : M0 a 1 = (nd v : Int) := hv.1
  obtain ⟨f, k, ef, hk⟩ : ∃ f k, s = 15 * f + k ∧ k < 15 := ⟨s / 15, s % 15, by omega, by omega⟩
  have hf : s / 15 = f := by omega
  have eV : v * 2 ^ s = v * 2 ^ k * 32768 ^ f := by rw [ef, Nat.pow_add, ← nn_pw, Nat.mul_assoc, Nat.mul_comm (2 ^ k)]
  have pk : 2 ^ k < 2 ^ 15 := Nat.pow_lt_pow_right (by decide) hk
  have hlt : v * 2 ^ s < 32768 ^ (nd v + f + 1) := by
    rw [eV]
    have h1 := Nat.mul_lt_mul'' (nd_lt v) pk
    rw [show nd v + f + 1 = (nd v + 1) + f by omega, Nat.pow_add, nn_succ]
    exact Nat.mul_lt_mul_of_pos_right h1 (nn_pos f)
  have loop : ∀ (r : Nat) (M : Mem) (o7 : Option AV), r ≤ nd v + 1 → M a 1 = (nd v : Int) → (∀ j, j < r → j < nd v → M (a + 1) j = (dg v j : Int)) → FrX M0 M d → (∀ j, r ≤ j → j ≤ nd v → M (d + 1) (f + j) = (dg (v * 2 ^ k) j : Int)) → aw 21 [some (.inr (.inr d)), some (.inr (.inr a)), some (.inl (s : Int)), some (.inl (f : Int)), some (.inl (k : Int)), some (.inl (nd v : Int)), some (.inl ((r : Int) - 1)), o7] [] M := by
    intro r
    induction r with
    | zero =>
      intro M o7 hr ha1 ha2 hF hD
      refine run 60 [21] _ _ _ _ ?_
      refine And.intro ⟨⟨by omega, by omega⟩, ⟨by omega, by omega⟩⟩ (And.intro (fun _ => ?_) (fun c2 => absurd c2 (by omega)))
      refine And.intro hd.kd ⟨(d + 1, 0, f, 0), ⟨rfl, hd.ka, by omega, by omega, by omega⟩, ?_⟩
      rintro M2 hM2
      change M2 = va_up M (d + 1) (fun i => if 0 ≤ i ∧ i < f then 0 else M (d + 1) i) at hM2
      have hD2 : ∀ j, j < nd v + f + 1 → M2 (d + 1) j = (dg (v * 2 ^ s) j : Int) := by
        intro j hj
        rw [hM2, va_up_self, eV]
        by_cases c : j < f
        · rw [if_pos (by omega), dg_sh_lo c]
          rfl
        · rw [if_neg (by omega), show j = f + (j - f) by omega, dg_sh_hi]
          exact hD (j - f) (by omega) (by omega)
      have hF2 : FrX M0 M2 d := fun o p q => by rw [hM2, va_up_ne _ _ q]; exact hF o p q
      conv => whnf
      rw [show (nd v : Int) + (f : Int) + 1 = ((nd v + f + 1 : Nat) : Int) by omega]
      refine And.intro hd.kd ⟨(d, nd v + f + 1, v * 2 ^ s), ⟨rfl, hd, by omega, hlt, hD2⟩, ?_⟩
      rintro M3 rfl
      refine Or.inl ⟨XR.fix hD2 hlt, fun j hj => ?_, hF2.tr FrX.len⟩
      change up2 M2 d 1 (nd (v * 2 ^ s) : Int) (d + 1) j = (dg (v * 2 ^ s) j : Int)
      rw [up2_i (by omega)]
      exact hD2 j (by omega)
    | succ r ih =>
      intro M o7 hr ha1 ha2 hF hD
      rw [show (((r + 1 : Nat) : Int) - 1) = (r : Int) by omega]
      refine run 60 [21] _ _ _ _ ?_
      refine And.intro ⟨⟨by omega, by omega⟩, ⟨by omega, by omega⟩⟩ (And.intro (fun c1 => absurd c1 (by omega)) (fun _ => ?_))
      have g1 := dg_lt v r
      have g2 := dgZ_rng v ((r : Int) - 1)
      refine And.intro ha.kd ⟨(a, (r : Int), v, 0), ⟨rfl, ha, ⟨by omega, by omega⟩, ha1, by omega, fun _ h => ha2 r (by omega) (by omega)⟩, ?_⟩
      rintro x M ⟨rfl, rfl⟩
      rw [dgZ_n]
      refine And.intro ⟨by omega, by omega⟩ ?_
      refine And.intro ha.kd ⟨(a, (r : Int) - 1, v, 0), ⟨rfl, ha, ⟨by omega, by omega⟩, ha1, by omega, fun _ h => ha2 _ (by omega) (by omega)⟩, ?_⟩
      rintro x M ⟨rfl, rfl⟩
      refine And.intro ⟨⟨by omega, by omega⟩, by omega, by omega⟩ (And.intro hd.kd (And.intro ⟨hd.ka, by omega, by omega⟩ (And.intro ?_ trivial)))
      rw [su_val hk, show ((r : Int) + (f : Int)).toNat = f + r by omega]
      refine ih _ _ (by omega) ?_ (fun j hj1 hj2 => ?_) (hF.tr FrX.put) (fun j hj1 hj2 => ?_)
      · rw [up2_i (by omega)]
        exact ha1
      · by_cases c : a = d
        · subst c
          rw [up2_k (by omega)]
          exact ha2 j (by omega) hj2
        · rw [up2_i (by omega)]
          exact ha2 j (by omega) hj2
      · by_cases hj3 : j = r
        · rw [hj3, up2_s]
        · rw [up2_k (by omega)]
          exact hD j (by omega) hj2
  change aw 0 [some (.inr (.inr d)), some (.inr (.inr a)), some (.inl (s : Int)), none, none, none, none, none] [] M0
  refine run 60 [21] _ _ _ _ ?_
  refine And.intro ⟨by omega, by omega, ⟨by omega, by omega⟩, ⟨by omega, by omega⟩⟩ (And.intro ⟨by omega, by omega, ⟨by omega, by omega⟩, ⟨by omega, by omega⟩⟩ (And.intro ha.kd (And.intro ?_ trivial)))
  rw [h1, show (s : Int) / 15 = (f : Int) by omega, show (s : Int) % 15 = (k : Int) by omega, show (nd v : Int) = ((nd v + 1 : Nat) : Int) - 1 by omega]
  have := loop (nd v + 1) M0 none (Nat.le_refl _) h1 (fun j _ hj => hv.2 j hj) (FrX.rf _ _) (fun j hj1 hj2 => by omega)
  rw [show ((nd v + 1 : Nat) : Int) - 1 = (nd v : Int) by omega] at this ⊢
  exact this
theorem imX0_shiftUp {l : Launch} {Z : ZT} (hZ : ZOk Z) : Impl l Z yX0_shiftUp cX0_shiftUp 8 none 3 c_shiftUp := mkImpl (rt := 0) (CL := [(50, some 5, c_limbAtZ), (61, none, (c_fill (zN Z))), (54, some 5, c_trim)]) hZ.1 hZ.2.1 (by decide +kernel) kX0_shiftUp fwX0 iwX0 lwX0 trivial (Nat.le_of_ble_eq_true rfl) (List.forall_mem_cons.mpr ⟨gX0_50_Z hZ (by decide), List.forall_mem_cons.mpr ⟨gX0_61 hZ (by decide), List.forall_mem_cons.mpr ⟨gX0_54 hZ (by decide), fun q h => absurd h List.not_mem_nil⟩⟩⟩) ((v_shiftUp (zN Z)))
theorem gX0_78 {l : Launch} {Z : ZT} (hZ : ZOk Z) {d : Nat} (hd : 4 ≤ d) : CallI l Z RX0 d (78, none, c_shiftUp) := fun p e s m args below meth c Q cc nL x0 X => callOk_S X (imX0_shiftUp hZ) mlX0_78 sw_yX0_shiftUp nw_RX0 cw_yX0_shiftUp ⟨by decide +kernel, by decide +kernel, by decide +kernel⟩ ⟨hd, by decide⟩
theorem gX7_232 {l : Launch} {Z : ZT} (hZ : ZOk Z) {d : Nat} (hd : 4 ≤ d) : CallI l Z RX7 d (232, none, c_shiftUp) := fun p e s m args below meth c Q cc nL x0 X => callOk_S X (imX0_shiftUp hZ) mlX7_232 sw_yX0_shiftUp nw_RX0 cw_yX0_shiftUp ⟨by decide +kernel, by decide +kernel, by decide +kernel⟩ ⟨hd, by decide⟩
theorem bTz (t w : Nat) (h : 2 ^ t * (2 * w + 1) < 32768) : bAnd (bXor ((2 ^ t * (2 * w + 1) : Nat) : Int) (-1)) (((2 ^ t * (2 * w + 1) : Nat) : Int) - 1) = ((2 ^ t - 1 : Nat) : Int) := by
  have hp : 0 < 2 ^ t := Nat.pow_pos (by decide)
  have e0 : 2 ^ t * (2 * w + 1) = 2 ^ t * (2 * w) + 2 ^ t := by rw [Nat.mul_add, Nat.mul_one]
  have eB : ((2 ^ t * (2 * w + 1) : Nat) : Int) - 1 = ((2 ^ t * (2 * w) + (2 ^ t - 1) : Nat) : Int) := by omega
  have e : (Int32.ofNat (2 ^ t * (2 * w + 1)) ^^^ Int32.ofInt (-1)) &&& Int32.ofNat (2 ^ t * (2 * w) + (2 ^ t - 1)) = Int32.ofNat (2 ^ t - 1) := by
    apply Int32.toBitVec.inj
    show (BitVec.ofNat 32 (2 ^ t * (2 * w + 1)) ^^^ BitVec.allOnes 32) &&& BitVec.ofNat 32 (2 ^ t * (2 * w) + (2 ^ t - 1)) = BitVec.ofNat 32 (2 ^ t - 1)
    apply BitVec.eq_of_getLsbD_eq
    intro i hi
    rw [BitVec.getLsbD_and, BitVec.getLsbD_xor, BitVec.getLsbD_allOnes, BitVec.getLsbD_ofNat, BitVec.getLsbD_ofNat, BitVec.getLsbD_ofNat, Nat.testBit_two_pow_mul_add _ (by omega), Nat.testBit_two_pow_sub_one, Nat.testBit_two_pow_mul]
    by_cases h1 : i < t
    · simp [hi, h1]
    · obtain ⟨j, ej⟩ : ∃ j, j = i - t := ⟨_, rfl⟩
      rw [← ej]
      cases j with
      | zero => simp [hi, h1]
      | succ j =>
        have a1 : Nat.testBit (2 * w + 1) (j + 1) = Nat.testBit w j := by rw [Nat.testBit_succ, show (2 * w + 1) / 2 = w by omega]
        have a2 : Nat.testBit (2 * w) (j + 1) = Nat.testBit w j := by rw [Nat.testBit_succ, show (2 * w) / 2 = w by omega]
        rw [a1, a2]
        have h3 : t ≤ i := by omega
        simp [hi, h1, h3]
  unfold bAnd bXor
  rw [eB, Int32.ofInt_toInt, Int32.ofInt_eq_ofNat, Int32.ofInt_eq_ofNat, e]
  exact nI_toInt (by omega)
/-- numberOfTrailingZeros of a limb -/
def c_ntz : Call := ⟨Nat × Nat, 1, (fun (t, w) vs _ => vs = [.inl ((2 ^ t * (2 * w + 1) : Nat) : Int)] ∧ 2 ^ t * (2 * w + 1) < 32768), .inr (fun (t, _) _ M x M' => x = (t : Int) ∧ M' = M)⟩
theorem v_ntz (n : Nn) : Ver tJ6_numberOfTrailingZeros_0f7a4 (fdJ6, icJ6, lcJ6, []) 1 2 n c_ntz := by
  rintro ⟨t, w⟩ vs M0 ⟨rfl, hv⟩ aw run
  have ht : t < 15 := by
    have h1 : 2 ^ t * 1 ≤ 2 ^ t * (2 * w + 1) := Nat.mul_le_mul (Nat.le_refl _) (by omega)
    exact (Nat.pow_lt_pow_iff_right (show 1 < 2 by decide)).mp (show 2 ^ t < 2 ^ 15 by omega)
  have k0 : (0 : Int) = (t : Int) → aw 8 [some (.inl 0), none] [] M0 := by
    intro et
    refine run 60 [] _ _ _ _ ?_
    refine And.intro ⟨⟨by decide, by decide⟩, ⟨by decide, by decide⟩⟩ (And.intro (fun c1 => absurd c1 (by decide)) (fun _ => ?_))
    exact Or.inl ⟨et, rfl⟩
  have k1 : (1 : Int) = (t : Int) → aw 8 [some (.inl 1), none] [] M0 := by
    intro et
    refine run 60 [] _ _ _ _ ?_
    refine And.intro ⟨⟨by decide, by decide⟩, ⟨by decide, by decide⟩⟩ (And.intro (fun _ => ?_) (fun c2 => absurd c2 (by decide)))
    refine And.intro ⟨⟨by decide, by decide⟩, ⟨by decide, by decide⟩⟩ (And.intro (fun _ => ?_) (fun c2 => absurd c2 (by decide)))
    refine And.intro ⟨⟨by decide, by decide⟩, ⟨by decide, by decide⟩⟩ (And.intro (fun _ => ?_) (fun c2 => absurd c2 (by decide)))
    refine And.intro ⟨⟨by decide, by decide⟩, ⟨by decide, by decide⟩⟩ (And.intro (fun _ => ?_) (fun c2 => absurd c2 (by decide)))
    refine And.intro ⟨⟨by decide, by decide⟩, ⟨by decide, by decide⟩⟩ (And.intro (fun _ => ?_) (fun c2 => absurd c2 (by decide)))
    refine And.intro ⟨⟨by decide, by decide⟩, by decide, by decide, by decide⟩ ?_
    exact Or.inl ⟨et, rfl⟩
  have k2 : (2 : Int) = (t : Int) → aw 8 [some (.inl 3), none] [] M0 := by
    intro et
    refine run 60 [] _ _ _ _ ?_
    refine And.intro ⟨⟨by decide, by decide⟩, ⟨by decide, by decide⟩⟩ (And.intro (fun _ => ?_) (fun c2 => absurd c2 (by decide)))
    refine And.intro ⟨⟨by decide, by decide⟩, ⟨by decide, by decide⟩⟩ (And.intro (fun _ => ?_) (fun c2 => absurd c2 (by decide)))
    refine And.intro ⟨⟨by decide, by decide⟩, ⟨by decide, by decide⟩⟩ (And.intro (fun _ => ?_) (fun c2 => absurd c2 (by decide)))
    refine And.intro ⟨⟨by decide, by decide⟩, ⟨by decide, by decide⟩⟩ (And.intro (fun _ => ?_) (fun c2 => absurd c2 (by decide)))
    refine And.intro ⟨⟨by decide, by decide⟩, ⟨by decide, by decide⟩⟩ (And.intro (fun _ => ?_) (fun c2 => absurd c2 (by decide)))
    refine And.intro ⟨⟨by decide, by decide⟩, by decide, by decide, by decide⟩ ?_
    exact Or.inl ⟨et, rfl⟩
  have k3 : (3 : Int) = (t : Int) → aw 8 [some (.inl 7), none] [] M0 := by
    intro et
    refine run 60 [] _ _ _ _ ?_
    refine And.intro ⟨⟨by decide, by decide⟩, ⟨by decide, by decide⟩⟩ (And.intro (fun _ => ?_) (fun c2 => absurd c2 (by decide)))
    refine And.intro ⟨⟨by decide, by decide⟩, ⟨by decide, by decide⟩⟩ (And.intro (fun _ => ?_) (fun c2 => absurd c2 (by decide)))
    refine And.intro ⟨⟨by decide, by decide⟩, ⟨by decide, by decide⟩⟩ (And.intro (fun _ => ?_) (fun c2 => absurd c2 (by decide)))
    refine And.intro ⟨⟨by decide, by decide⟩, ⟨by decide, by decide⟩⟩ (And.intro (fun _ => ?_) (fun c2 => absurd c2 (by decide)))
    refine And.intro ⟨⟨by decide, by decide⟩, ⟨by decide, by decide⟩⟩ (And.intro (fun c1 => absurd c1 (by decide)) (fun _ => ?_))
    refine And.intro ⟨⟨by decide, by decide⟩, by decide, by decide, by decide⟩ ?_
    refine And.intro ⟨⟨by decide, by decide⟩, by decide, by decide, by decide⟩ ?_
    exact Or.inl ⟨et, rfl⟩
  have k4 : (4 : Int) = (t : Int) → aw 8 [some (.inl 15), none] [] M0 := by
    intro et
    refine run 60 [] _ _ _ _ ?_
    refine And.intro ⟨⟨by decide, by decide⟩, ⟨by decide, by decide⟩⟩ (And.intro (fun _ => ?_) (fun c2 => absurd c2 (by decide)))
    refine And.intro ⟨⟨by decide, by decide⟩, ⟨by decide, by decide⟩⟩ (And.intro (fun _ => ?_) (fun c2 => absurd c2 (by decide)))
    refine And.intro ⟨⟨by decide, by decide⟩, ⟨by decide, by decide⟩⟩ (And.intro (fun _ => ?_) (fun c2 => absurd c2 (by decide)))
    refine And.intro ⟨⟨by decide, by decide⟩, ⟨by decide, by decide⟩⟩ (And.intro (fun _ => ?_) (fun c2 => absurd c2 (by decide)))
    refine And.intro ⟨⟨by decide, by decide⟩, ⟨by decide, by decide⟩⟩ (And.intro (fun c1 => absurd c1 (by decide)) (fun _ => ?_))
    refine And.intro ⟨⟨by decide, by decide⟩, by decide, by decide, by decide⟩ ?_
    refine And.intro ⟨⟨by decide, by decide⟩, by decide, by decide, by decide⟩ ?_
    exact Or.inl ⟨et, rfl⟩
  have k5 : (5 : Int) = (t : Int) → aw 8 [some (.inl 31), none] [] M0 := by
    intro et
    refine run 60 [] _ _ _ _ ?_
    refine And.intro ⟨⟨by decide, by decide⟩, ⟨by decide, by decide⟩⟩ (And.intro (fun _ => ?_) (fun c2 => absurd c2 (by decide)))
    refine And.intro ⟨⟨by decide, by decide⟩, ⟨by decide, by decide⟩⟩ (And.intro (fun _ => ?_) (fun c2 => absurd c2 (by decide)))
    refine And.intro ⟨⟨by decide, by decide⟩, ⟨by decide, by decide⟩⟩ (And.intro (fun _ => ?_) (fun c2 => absurd c2 (by decide)))
    refine And.intro ⟨⟨by decide, by decide⟩, ⟨by decide, by decide⟩⟩ (And.intro (fun c1 => absurd c1 (by decide)) (fun _ => ?_))
    refine And.intro ⟨⟨by decide, by decide⟩, by decide, by decide, by decide⟩ ?_
    refine And.intro ⟨⟨by decide, by decide⟩, ⟨by decide, by decide⟩⟩ (And.intro (fun _ => ?_) (fun c2 => absurd c2 (by decide)))
    refine And.intro ⟨⟨by decide, by decide⟩, by decide, by decide, by decide⟩ ?_
    exact Or.inl ⟨et, rfl⟩
  have k6 : (6 : Int) = (t : Int) → aw 8 [some (.inl 63), none] [] M0 := by
    intro et
    refine run 60 [] _ _ _ _ ?_
    refine And.intro ⟨⟨by decide, by decide⟩, ⟨by decide, by decide⟩⟩ (And.intro (fun _ => ?_) (fun c2 => absurd c2 (by decide)))
    refine And.intro ⟨⟨by decide, by decide⟩, ⟨by decide, by decide⟩⟩ (And.intro (fun _ => ?_) (fun c2 => absurd c2 (by decide)))
    refine And.intro ⟨⟨by decide, by decide⟩, ⟨by decide, by decide⟩⟩ (And.intro (fun _ => ?_) (fun c2 => absurd c2 (by decide)))
    refine And.intro ⟨⟨by decide, by decide⟩, ⟨by decide, by decide⟩⟩ (And.intro (fun c1 => absurd c1 (by decide)) (fun _ => ?_))
    refine And.intro ⟨⟨by decide, by decide⟩, by decide, by decide, by decide⟩ ?_
    refine And.intro ⟨⟨by decide, by decide⟩, ⟨by decide, by decide⟩⟩ (And.intro (fun _ => ?_) (fun c2 => absurd c2 (by decide)))
    refine And.intro ⟨⟨by decide, by decide⟩, by decide, by decide, by decide⟩ ?_
    exact Or.inl ⟨et, rfl⟩
  have k7 : (7 : Int) = (t : Int) → aw 8 [some (.inl 127), none] [] M0 := by
    intro et
    refine run 60 [] _ _ _ _ ?_
    refine And.intro ⟨⟨by decide, by decide⟩, ⟨by decide, by decide⟩⟩ (And.intro (fun _ => ?_) (fun c2 => absurd c2 (by decide)))
    refine And.intro ⟨⟨by decide, by decide⟩, ⟨by decide, by decide⟩⟩ (And.intro (fun _ => ?_) (fun c2 => absurd c2 (by decide)))
    refine And.intro ⟨⟨by decide, by decide⟩, ⟨by decide, by decide⟩⟩ (And.intro (fun _ => ?_) (fun c2 => absurd c2 (by decide)))
    refine And.intro ⟨⟨by decide, by decide⟩, ⟨by decide, by decide⟩⟩ (And.intro (fun c1 => absurd c1 (by decide)) (fun _ => ?_))
    refine And.intro ⟨⟨by decide, by decide⟩, by decide, by decide, by decide⟩ ?_
    refine And.intro ⟨⟨by decide, by decide⟩, ⟨by decide, by decide⟩⟩ (And.intro (fun c1 => absurd c1 (by decide)) (fun _ => ?_))
    refine And.intro ⟨⟨by decide, by decide⟩, by decide, by decide, by decide⟩ ?_
    refine And.intro ⟨⟨by decide, by decide⟩, by decide, by decide, by decide⟩ ?_
    exact Or.inl ⟨et, rfl⟩
  have k8 : (8 : Int) = (t : Int) → aw 8 [some (.inl 255), none] [] M0 := by
    intro et
    refine run 60 [] _ _ _ _ ?_
    refine And.intro ⟨⟨by decide, by decide⟩, ⟨by decide, by decide⟩⟩ (And.intro (fun _ => ?_) (fun c2 => absurd c2 (by decide)))
    refine And.intro ⟨⟨by decide, by decide⟩, ⟨by decide, by decide⟩⟩ (And.intro (fun _ => ?_) (fun c2 => absurd c2 (by decide)))
    refine And.intro ⟨⟨by decide, by decide⟩, ⟨by decide, by decide⟩⟩ (And.intro (fun _ => ?_) (fun c2 => absurd c2 (by decide)))
    refine And.intro ⟨⟨by decide, by decide⟩, ⟨by decide, by decide⟩⟩ (And.intro (fun c1 => absurd c1 (by decide)) (fun _ => ?_))
    refine And.intro ⟨⟨by decide, by decide⟩, by decide, by decide, by decide⟩ ?_
    refine And.intro ⟨⟨by decide, by decide⟩, ⟨by decide, by decide⟩⟩ (And.intro (fun c1 => absurd c1 (by decide)) (fun _ => ?_))
    refine And.intro ⟨⟨by decide, by decide⟩, by decide, by decide, by decide⟩ ?_
    refine And.intro ⟨⟨by decide, by decide⟩, by decide, by decide, by decide⟩ ?_
    exact Or.inl ⟨et, rfl⟩
  have k9 : (9 : Int) = (t : Int) → aw 8 [some (.inl 511), none] [] M0 := by
    intro et
    refine run 60 [] _ _ _ _ ?_
    refine And.intro ⟨⟨by decide, by decide⟩, ⟨by decide, by decide⟩⟩ (And.intro (fun _ => ?_) (fun c2 => absurd c2 (by decide)))
    refine And.intro ⟨⟨by decide, by decide⟩, ⟨by decide, by decide⟩⟩ (And.intro (fun _ => ?_) (fun c2 => absurd c2 (by decide)))
    refine And.intro ⟨⟨by decide, by decide⟩, ⟨by decide, by decide⟩⟩ (And.intro (fun c1 => absurd c1 (by decide)) (fun _ => ?_))
    refine And.intro ⟨⟨by decide, by decide⟩, by decide, by decide, by decide⟩ ?_
    refine And.intro ⟨⟨by decide, by decide⟩, ⟨by decide, by decide⟩⟩ (And.intro (fun _ => ?_) (fun c2 => absurd c2 (by decide)))
    refine And.intro ⟨⟨by decide, by decide⟩, ⟨by decide, by decide⟩⟩ (And.intro (fun _ => ?_) (fun c2 => absurd c2 (by decide)))
    refine And.intro ⟨⟨by decide, by decide⟩, by decide, by decide, by decide⟩ ?_
    exact Or.inl ⟨et, rfl⟩
  have k10 : (10 : Int) = (t : Int) → aw 8 [some (.inl 1023), none] [] M0 := by
    intro et
    refine run 60 [] _ _ _ _ ?_
    refine And.intro ⟨⟨by decide, by decide⟩, ⟨by decide, by decide⟩⟩ (And.intro (fun _ => ?_) (fun c2 => absurd c2 (by decide)))
    refine And.intro ⟨⟨by decide, by decide⟩, ⟨by decide, by decide⟩⟩ (And.intro (fun _ => ?_) (fun c2 => absurd c2 (by decide)))
    refine And.intro ⟨⟨by decide, by decide⟩, ⟨by decide, by decide⟩⟩ (And.intro (fun c1 => absurd c1 (by decide)) (fun _ => ?_))
    refine And.intro ⟨⟨by decide, by decide⟩, by decide, by decide, by decide⟩ ?_
    refine And.intro ⟨⟨by decide, by decide⟩, ⟨by decide, by decide⟩⟩ (And.intro (fun _ => ?_) (fun c2 => absurd c2 (by decide)))
    refine And.intro ⟨⟨by decide, by decide⟩, ⟨by decide, by decide⟩⟩ (And.intro (fun _ => ?_) (fun c2 => absurd c2 (by decide)))
    refine And.intro ⟨⟨by decide, by decide⟩, by decide, by decide, by decide⟩ ?_
    exact Or.inl ⟨et, rfl⟩
  have k11 : (11 : Int) = (t : Int) → aw 8 [some (.inl 2047), none] [] M0 := by
    intro et
    refine run 60 [] _ _ _ _ ?_
    refine And.intro ⟨⟨by decide, by decide⟩, ⟨by decide, by decide⟩⟩ (And.intro (fun _ => ?_) (fun c2 => absurd c2 (by decide)))
    refine And.intro ⟨⟨by decide, by decide⟩, ⟨by decide, by decide⟩⟩ (And.intro (fun _ => ?_) (fun c2 => absurd c2 (by decide)))
    refine And.intro ⟨⟨by decide, by decide⟩, ⟨by decide, by decide⟩⟩ (And.intro (fun c1 => absurd c1 (by decide)) (fun _ => ?_))
    refine And.intro ⟨⟨by decide, by decide⟩, by decide, by decide, by decide⟩ ?_
    refine And.intro ⟨⟨by decide, by decide⟩, ⟨by decide, by decide⟩⟩ (And.intro (fun _ => ?_) (fun c2 => absurd c2 (by decide)))
    refine And.intro ⟨⟨by decide, by decide⟩, ⟨by decide, by decide⟩⟩ (And.intro (fun c1 => absurd c1 (by decide)) (fun _ => ?_))
    refine And.intro ⟨⟨by decide, by decide⟩, by decide, by decide, by decide⟩ ?_
    refine And.intro ⟨⟨by decide, by decide⟩, by decide, by decide, by decide⟩ ?_
    exact Or.inl ⟨et, rfl⟩
  have k12 : (12 : Int) = (t : Int) → aw 8 [some (.inl 4095), none] [] M0 := by
    intro et
    refine run 60 [] _ _ _ _ ?_
    refine And.intro ⟨⟨by decide, by decide⟩, ⟨by decide, by decide⟩⟩ (And.intro (fun _ => ?_) (fun c2 => absurd c2 (by decide)))
    refine And.intro ⟨⟨by decide, by decide⟩, ⟨by decide, by decide⟩⟩ (And.intro (fun _ => ?_) (fun c2 => absurd c2 (by decide)))
    refine And.intro ⟨⟨by decide, by decide⟩, ⟨by decide, by decide⟩⟩ (And.intro (fun c1 => absurd c1 (by decide)) (fun _ => ?_))
    refine And.intro ⟨⟨by decide, by decide⟩, by decide, by decide, by decide⟩ ?_
    refine And.intro ⟨⟨by decide, by decide⟩, ⟨by decide, by decide⟩⟩ (And.intro (fun _ => ?_) (fun c2 => absurd c2 (by decide)))
    refine And.intro ⟨⟨by decide, by decide⟩, ⟨by decide, by decide⟩⟩ (And.intro (fun c1 => absurd c1 (by decide)) (fun _ => ?_))
    refine And.intro ⟨⟨by decide, by decide⟩, by decide, by decide, by decide⟩ ?_
    refine And.intro ⟨⟨by decide, by decide⟩, by decide, by decide, by decide⟩ ?_
    exact Or.inl ⟨et, rfl⟩
  have k13 : (13 : Int) = (t : Int) → aw 8 [some (.inl 8191), none] [] M0 := by
    intro et
    refine run 60 [] _ _ _ _ ?_
    refine And.intro ⟨⟨by decide, by decide⟩, ⟨by decide, by decide⟩⟩ (And.intro (fun _ => ?_) (fun c2 => absurd c2 (by decide)))
    refine And.intro ⟨⟨by decide, by decide⟩, ⟨by decide, by decide⟩⟩ (And.intro (fun _ => ?_) (fun c2 => absurd c2 (by decide)))
    refine And.intro ⟨⟨by decide, by decide⟩, ⟨by decide, by decide⟩⟩ (And.intro (fun c1 => absurd c1 (by decide)) (fun _ => ?_))
    refine And.intro ⟨⟨by decide, by decide⟩, by decide, by decide, by decide⟩ ?_
    refine And.intro ⟨⟨by decide, by decide⟩, ⟨by decide, by decide⟩⟩ (And.intro (fun c1 => absurd c1 (by decide)) (fun _ => ?_))
    refine And.intro ⟨⟨by decide, by decide⟩, by decide, by decide, by decide⟩ ?_
    refine And.intro ⟨⟨by decide, by decide⟩, ⟨by decide, by decide⟩⟩ (And.intro (fun _ => ?_) (fun c2 => absurd c2 (by decide)))
    refine And.intro ⟨⟨by decide, by decide⟩, by decide, by decide, by decide⟩ ?_
    exact Or.inl ⟨et, rfl⟩
  have k14 : (14 : Int) = (t : Int) → aw 8 [some (.inl 16383), none] [] M0 := by
    intro et
    refine run 60 [] _ _ _ _ ?_
    refine And.intro ⟨⟨by decide, by decide⟩, ⟨by decide, by decide⟩⟩ (And.intro (fun _ => ?_) (fun c2 => absurd c2 (by decide)))
    refine And.intro ⟨⟨by decide, by decide⟩, ⟨by decide, by decide⟩⟩ (And.intro (fun _ => ?_) (fun c2 => absurd c2 (by decide)))
    refine And.intro ⟨⟨by decide, by decide⟩, ⟨by decide, by decide⟩⟩ (And.intro (fun c1 => absurd c1 (by decide)) (fun _ => ?_))
    refine And.intro ⟨⟨by decide, by decide⟩, by decide, by decide, by decide⟩ ?_
    refine And.intro ⟨⟨by decide, by decide⟩, ⟨by decide, by decide⟩⟩ (And.intro (fun c1 => absurd c1 (by decide)) (fun _ => ?_))
    refine And.intro ⟨⟨by decide, by decide⟩, by decide, by decide, by decide⟩ ?_
    refine And.intro ⟨⟨by decide, by decide⟩, ⟨by decide, by decide⟩⟩ (And.intro (fun _ => ?_) (fun c2 => absurd c2 (by decide)))
    refine And.intro ⟨⟨by decide, by decide⟩, by decide, by decide, by decide⟩ ?_
    exact Or.inl ⟨et, rfl⟩
  change aw 0 [some (.inl ((2 ^ t * (2 * w + 1) : Nat) : Int)), none] [] M0
  refine run 30 [8] _ _ _ _ ?_
  refine And.intro ?_ trivial
  rw [bTz t w hv]
  clear hv
  rcases (show t = 0 ∨ t = 1 ∨ t = 2 ∨ t = 3 ∨ t = 4 ∨ t = 5 ∨ t = 6 ∨ t = 7 ∨ t = 8 ∨ t = 9 ∨ t = 10 ∨ t = 11 ∨ t = 12 ∨ t = 13 ∨ t = 14 by omega) with rfl | rfl | rfl | rfl | rfl | rfl | rfl | rfl | rfl | rfl | rfl | rfl | rfl | rfl | rfl
  · exact k0 rfl
  · exact k1 rfl
  · exact k2 rfl
  · exact k3 rfl
  · exact k4 rfl
  · exact k5 rfl
  · exact k6 rfl
  · exact k7 rfl
  · exact k8 rfl
  · exact k9 rfl
  · exact k10 rfl
  · exact k11 rfl
  · exact k12 rfl
  · exact k13 rfl
  · exact k14 rfl
theorem imJ6_numberOfTrailingZeros_0f7a4 {l : Launch} {Z : ZT} (hZ : ZOk Z) : Impl l Z yJ6_numberOfTrailingZeros_0f7a4 cJ6_numberOfTrailingZeros_0f7a4 2 (some .int) 1 c_ntz := mkImplF (rt := 1) (CL := []) hZ.1 hZ.2.1 (by decide +kernel) kJ6_numberOfTrailingZeros_0f7a4 fwJ6 iwJ6 lwJ6 trivial (Nat.le_of_ble_eq_true rfl) (fun q h => absurd h List.not_mem_nil) ((v_ntz _))
theorem gX5_36 {l : Launch} {Z : ZT} (hZ : ZOk Z) {d : Nat} (hd : 2 ≤ d) : CallI l Z RX5 d (36, none, c_ntz) := fun p e s m args below meth c Q cc nL x0 X => callOk_S X (imJ6_numberOfTrailingZeros_0f7a4 hZ) mlX5_36 sw_yJ6_numberOfTrailingZeros_0f7a4 nw_RJ6 cw_yJ6_numberOfTrailingZeros_0f7a4 ⟨by decide +kernel, by decide +kernel, by decide +kernel⟩ ⟨hd, by decide⟩
/-- trailingZeros() of a number that isn't 0 -/
def c_tzX : Call := ⟨Nat × Nat × Nat × Nat, 1, (fun (r, v, t, w) vs M => vs = [.inr (.inr r)] ∧ isRw r ∧ XR M r v ∧ nd v ≤ 130 ∧ v = (2 * w + 1) * 2 ^ t), .inr (fun (_, _, t, _) _ M x M' => x = (t : Int) ∧ M' = M)⟩
theorem v_tzX (n : Nn) : Ver tX5_trailingZeros (fdX5, icX5, lcX5, [(36, none, c_ntz)]) 1 2 n c_tzX := by
  rintro ⟨r, v, t, w⟩ vs M0 ⟨rfl, hr, hv, hn, ev⟩ aw run
  have hl := hr.ln n
  have h1 : M0 r 1 = (nd v : Int) := hv.1
  obtain ⟨f, k, ef, hk⟩ : ∃ f k, t = 15 * f + k ∧ k < 15 := ⟨t / 15, t % 15, by omega, by omega⟩
  have eV : v = (2 * w + 1) * 2 ^ k * 32768 ^ f := by rw [ev, ef, Nat.pow_add, ← nn_pw, Nat.mul_assoc, Nat.mul_comm (2 ^ k)]
  have d0 : ∀ j, j < f → dg v j = 0 := by
    intro j hj
    rw [eV]
    exact dg_sh_lo hj
  have d1 : dg v f = 2 ^ k * (2 * (w % 2 ^ (14 - k)) + 1) := by
    have := (dg_bit w f k hk).2.1
    rw [ev, ef, this, Nat.pow_succ]
    generalize w % 2 ^ (14 - k) = u
    grind
  have hp : 0 < 2 ^ k := Nat.pow_pos (by decide)
  have d2 : dg v f ≠ 0 := by
    rw [d1]
    exact Nat.ne_of_gt (Nat.mul_pos hp (by omega))
  have hf : f < nd v := Nat.lt_of_not_le (fun c => d2 (dg_z c))
  have g1 := dg_lt v f
  have loop : ∀ m i : Nat, i + m = f → aw 2 [some (.inr (.inr r)), some (.inl (i : Int))] [] M0 := by
    intro m
    induction m with
    | zero =>
      intro i hi
      obtain rfl : i = f := by omega
      have l1 : M0 (r + 1) i = (dg v i : Int) := hv.2 i hf
      refine run 60 [2] _ _ _ _ ?_
      refine And.intro hr.kd ?_
      refine And.intro ⟨⟨by omega, by omega⟩, ⟨by omega, by omega⟩⟩ (And.intro (fun c1 => absurd c1 (by omega)) (fun _ => ?_))
      refine And.intro hr.kd (And.intro ⟨hr.ka, by omega, by omega⟩ ?_)
      conv => whnf
      rw [Int.toNat_natCast, l1]
      refine And.intro ⟨⟨by omega, by omega⟩, ⟨by omega, by omega⟩⟩ (And.intro (fun c1 => absurd c1 (by omega)) (fun _ => ?_))
      refine And.intro hr.kd (And.intro ⟨hr.ka, by omega, by omega⟩ ?_)
      conv => whnf
      rw [Int.toNat_natCast, l1, d1]
      refine ⟨(k, w % 2 ^ (14 - k)), ⟨rfl, by rw [← d1]; exact g1⟩, ?_⟩
      rintro x M ⟨rfl, rfl⟩
      refine Or.inl ⟨?_, rfl⟩
      show 15 * (i : Int) + (k : Int) = (t : Int)
      omega
    | succ m ih =>
      intro i hi
      have l1 : M0 (r + 1) i = (dg v i : Int) := hv.2 i (by omega)
      have l2 := d0 i (by omega)
      refine run 60 [2] _ _ _ _ ?_
      refine And.intro hr.kd ?_
      refine And.intro ⟨⟨by omega, by omega⟩, ⟨by omega, by omega⟩⟩ (And.intro (fun c1 => absurd c1 (by omega)) (fun _ => ?_))
      refine And.intro hr.kd (And.intro ⟨hr.ka, by omega, by omega⟩ ?_)
      conv => whnf
      rw [Int.toNat_natCast, l1, l2]
      refine And.intro ⟨⟨by omega, by omega⟩, ⟨by omega, by omega⟩⟩ (And.intro (fun _ => ?_) (fun c2 => absurd c2 (by omega)))
      refine And.intro ?_ trivial
      rw [show ((i : Int) + 1) = ((i + 1 : Nat) : Int) by omega]
      exact ih (i + 1) (by omega)
  change aw 0 [some (.inr (.inr r)), none] [] M0
  refine run 30 [2] _ _ _ _ ?_
  refine And.intro ?_ trivial
  exact loop f 0 (by omega)
theorem imX5_trailingZeros {l : Launch} {Z : ZT} (hZ : ZOk Z) : Impl l Z yX5_trailingZeros cX5_trailingZeros 2 (some .int) 2 c_tzX := mkImpl (rt := 1) (CL := [(36, none, c_ntz)]) hZ.1 hZ.2.1 (by decide +kernel) kX5_trailingZeros fwX5 iwX5 lwX5 trivial (Nat.le_of_ble_eq_true rfl) (List.forall_mem_cons.mpr ⟨gX5_36 hZ (by decide), fun q h => absurd h List.not_mem_nil⟩) ((v_tzX _))
theorem gX0_117 {l : Launch} {Z : ZT} (hZ : ZOk Z) {d : Nat} (hd : 3 ≤ d) : CallI l Z RX0 d (117, some 5, c_tzX) := fun p e s m args below meth c Q cc nL x0 X => callOk_V X (imX5_trailingZeros hZ) (by decide) rfl mlX0_117 iw_yX5_trailingZeros vw_yX5_trailingZeros nw_RX5 cw_yX5_trailingZeros ⟨by decide +kernel, by decide +kernel, by decide +kernel⟩ ⟨hd, by decide⟩
