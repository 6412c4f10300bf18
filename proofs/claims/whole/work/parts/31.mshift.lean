/-! ===== the reference: shifts ===== -/
theorem bOr_nat (a b : Nat) (ha : a < 2147483648) (hb : b < 2147483648) : bOr (a : Int) (b : Int) = ((a ||| b : Nat) : Int) := by
  have h : a ||| b < 2 ^ 31 := Nat.or_lt_two_pow (by omega) (by omega)
  have e : Int32.ofNat a ||| Int32.ofNat b = Int32.ofNat (a ||| b) := by
    apply Int32.toBitVec.inj
    show BitVec.ofNat 32 a ||| BitVec.ofNat 32 b = BitVec.ofNat 32 (a ||| b)
    apply BitVec.eq_of_toNat_eq
    simp only [BitVec.toNat_or, BitVec.toNat_ofNat]
    rw [Nat.mod_eq_of_lt (by omega), Nat.mod_eq_of_lt (by omega), Nat.mod_eq_of_lt (by omega)]
  unfold bOr
  rw [Int32.ofInt_eq_ofNat, Int32.ofInt_eq_ofNat, e]
  exact nI_toInt (n := a ||| b) h
theorem bOr_add (x k y : Nat) (hy : y < 2 ^ k) (h : x * 2 ^ k + y < 2147483648) : bOr (((x * 2 ^ k : Nat)) : Int) (y : Int) = ((x * 2 ^ k + y : Nat) : Int) := by
  rw [bOr_nat _ _ (by omega) (by omega), Nat.mul_comm x, ← Nat.two_pow_add_eq_or_of_lt hy]
theorem dg_sh_lo {v f k j : Nat} (h : j < f) : dg (v * 2 ^ k * 32768 ^ f) j = 0 := by
  unfold dg
  rw [show f = j + 1 + (f - j - 1) by omega, Nat.pow_add, nn_succ]
  have hp := nn_pos j
  rw [show v * 2 ^ k * (32768 ^ j * 32768 * 32768 ^ (f - j - 1)) = 32768 ^ j * (v * 2 ^ k * 32768 ^ (f - j - 1) * 32768) by grind, Nat.mul_div_cancel_left _ hp, Nat.mul_mod_left]
theorem dg_sh_hi (v f k i : Nat) : dg (v * 2 ^ k * 32768 ^ f) (f + i) = dg (v * 2 ^ k) i := by
  unfold dg
  rw [Nat.pow_add, ← Nat.div_div_eq_div_mul, Nat.mul_div_cancel _ (nn_pos f)]
theorem pw_split {k : Nat} (hk : k ≤ 15) : 32768 = 2 ^ k * 2 ^ (15 - k) := by rw [← Nat.pow_add, show k + (15 - k) = 15 by omega]
theorem dg_up0 (v k : Nat) : dg (v * 2 ^ k) 0 = dg v 0 * 2 ^ k % 32768 := by
  unfold dg
  simp [Nat.mul_mod]
/-- a digit of v * 2^k, out of two of v -/
theorem dg_up (v k i : Nat) (hk : k < 15) : dg (v * 2 ^ k) (i + 1) = (dg v (i + 1) * 2 ^ k + dg v i / 2 ^ (15 - k)) % 32768 := by
  have hp : 0 < 2 ^ (15 - k) := Nat.pow_pos (by decide)
  have hp2 : 0 < 2 ^ k := Nat.pow_pos (by decide)
  have e1 : v * 2 ^ k / 32768 ^ (i + 1) = v / 32768 ^ i / 2 ^ (15 - k) := by
    rw [nn_succ, ← Nat.div_div_eq_div_mul, Nat.div_div_eq_div_mul v, ]
    have : (32768 : Nat) = 2 ^ k * 2 ^ (15 - k) := pw_split (by omega)
    rw [Nat.div_div_eq_div_mul, show 32768 ^ i * 32768 = 32768 ^ i * 2 ^ (15 - k) * 2 ^ k by rw [this]; grind, Nat.mul_div_mul_right _ _ hp2]
  have e2 := dv_s v i
  show v * 2 ^ k / 32768 ^ (i + 1) % 32768 = _
  rw [e1, e2]
  have e3 : (v / 32768 ^ (i + 1) * 32768 + dg v i) / 2 ^ (15 - k) = v / 32768 ^ (i + 1) * 2 ^ k + dg v i / 2 ^ (15 - k) := by
    have : (32768 : Nat) = 2 ^ k * 2 ^ (15 - k) := pw_split (by omega)
    rw [show v / 32768 ^ (i + 1) * 32768 = 2 ^ (15 - k) * (v / 32768 ^ (i + 1) * 2 ^ k) by generalize v / 32768 ^ (i + 1) = z; rw [this]; grind, Nat.add_comm, Nat.add_mul_div_left _ _ hp, Nat.add_comm]
  rw [e3]
  show _ = (v / 32768 ^ (i + 1) % 32768 * 2 ^ k + dg v i / 2 ^ (15 - k)) % 32768
  simp [Nat.add_mod, Nat.mul_mod]
theorem dg_dn (v f k i : Nat) (hk : k < 15) : dg (v / 2 ^ (15 * f + k)) i = (dg v (f + i) + dg v (f + i + 1) * 32768) / 2 ^ k % 32768 := by
  have hp : 0 < 2 ^ k := Nat.pow_pos (by decide)
  have e1 : v / 2 ^ (15 * f + k) / 32768 ^ i = v / 32768 ^ (f + i) / 2 ^ k := by
    rw [Nat.pow_add, ← nn_pw, Nat.div_div_eq_div_mul, Nat.div_div_eq_div_mul, Nat.pow_add]
    congr 1
    grind
  have a1 := dv_s v (f + i)
  have a2 := dv_s v (f + i + 1)
  show v / 2 ^ (15 * f + k) / 32768 ^ i % 32768 = _
  rw [e1, a1, a2]
  generalize v / 32768 ^ (f + i + 1 + 1) = z
  generalize dg v (f + i + 1) = d1
  generalize dg v (f + i) = d0
  have h5 : (32768 : Nat) = 2 ^ k * 2 ^ (15 - k) := pw_split (by omega)
  have e3 : (z * 32768 + d1) * 32768 + d0 = (d0 + d1 * 32768) + 2 ^ k * (z * 2 ^ (15 - k) * 32768) := by
    have : z * 32768 * 32768 = 2 ^ k * (z * 2 ^ (15 - k) * 32768) := by
      generalize hq : (32768 : Nat) = q at *
      rw [h5]
      grind
    rw [← this, Nat.add_mul]
    clear this h5 hp a1 a2 e1
    omega
  rw [e3, Nat.add_mul_div_left _ _ hp, Nat.add_mul_mod_self_right]
/-- v times 2 to the n, downwards if n is below 0 -/
def shV (v : Nat) (n : Int) : Nat := if n < 0 then v / 2 ^ (-n).toNat else v * 2 ^ n.toNat
/-- shifted(a, n, d) -/
def c_shifted : Call := ⟨Nat × Int × Nat × Nat, 4, (fun (a, sn, d, v) vs M => vs = [.inr (.inr 50), .inl (a : Int), .inl sn, .inl (d : Int)] ∧ a < 37 ∧ d < 37 ∧ a ≠ d ∧ -960 ≤ sn ∧ sn ≤ 960 ∧ MH M a v ∧ nd v ≤ 200), .inl (fun (_, sn, d, v) _ M M' => MH M' d (shV v sn) ∧ FrM M M' d)⟩
set_option maxHeartbeats 4000000 in
theorem v_shifted (n : Nn) : Ver tX8_shifted (fdX8, icX8, lcX8, [(76, some 8, c_at), (80, some 8, c_put), (85, some 8, c_fix)]) 0 9 n c_shifted := by
  rintro ⟨a, sn, d, v⟩ vs M0 ⟨rfl, ha, hd, had, hn1, hn2, hv, hnv⟩ aw run
  have hl : lnF n 52 = 37 := rfl
  have hv1 := hv.1
  change aw 0 [some (.inr (.inr 50)), some (.inl (a : Int)), some (.inl sn), some (.inl (d : Int)), none, none, none, none, none] [] M0
  by_cases hs : sn < 0
  · obtain ⟨by_, eby⟩ : ∃ k : Nat, (k : Int) = -sn := ⟨(-sn).toNat, by omega⟩
    obtain ⟨f, ef⟩ : ∃ f : Nat, f = by_ / 15 := ⟨_, rfl⟩
    obtain ⟨k, ek⟩ : ∃ k : Nat, k = by_ % 15 := ⟨_, rfl⟩
    have hk : k < 15 := by omega
    have efk : by_ = 15 * f + k := by omega
    have eV : shV v sn = v / 2 ^ (15 * f + k) := by
      unfold shV
      rw [if_pos hs, ← eby, Int.toNat_natCast, efk]
    have pk : 2 ^ k < 2 ^ 15 := Nat.pow_lt_pow_right (by decide) hk
    have pk0 : 0 < 2 ^ k := Nat.pow_pos (by decide)
    obtain ⟨m, em⟩ : ∃ m : Nat, m = nd v - f := ⟨_, rfl⟩
    have hlt : v / 2 ^ (15 * f + k) < 32768 ^ m := by
      rw [Nat.pow_add, ← nn_pw, ← Nat.div_div_eq_div_mul]
      refine Nat.lt_of_le_of_lt (Nat.div_le_self _ _) ?_
      rw [Nat.div_lt_iff_lt_mul (nn_pos f), ← Nat.pow_add]
      exact Nat.lt_of_lt_of_le (nd_lt v) (Nat.pow_le_pow_right (by decide) (by omega))
    have loop : ∀ (r i : Nat) (M : Mem), i + r = m → MH M a v → FrM M0 M d → (∀ j, j < i → M 51 (420 * d + j) = (dg (v / 2 ^ (15 * f + k)) j : Int)) → aw 161 [some (.inr (.inr 50)), some (.inl (a : Int)), some (.inl sn), some (.inl (d : Int)), some (.inl (by_ : Int)), some (.inl (f : Int)), some (.inl (k : Int)), some (.inl (m : Int)), some (.inl (i : Int))] [] M := by
      intro r
      induction r with
      | zero =>
        intro i M hi hA hF hD
        obtain rfl : i = m := by omega
        refine run 60 [161] _ _ _ _ ?_
        repeat' first | intro h | refine And.intro ?_ ?_
        all_goals first | omega | rfl | trivial | skip
        refine ⟨(d, i, v / 2 ^ (15 * f + k)), ⟨rfl, hd, by omega, hlt, hD⟩, ?_⟩
        rintro M2 rfl
        refine Or.inl (And.intro ?_ (hF.tr FrM.len))
        rw [eV]
        exact MH_fix hD hlt
      | succ r ih =>
        intro i M hi hA hF hD
        have g1 := dg_lt v (f + i)
        have g2 := dg_lt v (f + i + 1)
        refine run 80 [161] _ _ _ _ ?_
        repeat' first | intro h | refine And.intro ?_ ?_
        all_goals first | omega | rfl | trivial | skip
        rw [show (f : Int) + (i : Int) = ((f + i : Nat) : Int) by omega]
        refine ⟨(a, ((f + i : Nat) : Int), v), ⟨rfl, ha, ⟨by omega, by omega⟩, hA, by omega⟩, ?_⟩
        rintro x M1 ⟨rfl, rfl⟩
        rw [dgZ_n]
        refine And.intro rfl ?_
        rw [show (f : Int) + (i : Int) + 1 = ((f + i + 1 : Nat) : Int) by omega]
        refine ⟨(a, ((f + i + 1 : Nat) : Int), v), ⟨rfl, ha, ⟨by omega, by omega⟩, hA, by omega⟩, ?_⟩
        rintro y M2 ⟨rfl, rfl⟩
        rw [dgZ_n]
        refine And.intro ⟨by omega, by omega⟩ ?_
        conv => whnf
        have eor : bOr (dg v (f + i) : Int) ((dg v (f + i + 1) : Int) * 2 ^ (15 : Int).toNat) = ((dg v (f + i + 1) * 2 ^ 15 + dg v (f + i) : Nat) : Int) := by
          have := bOr_add (dg v (f + i + 1)) 15 (dg v (f + i)) (by omega) (by omega)
          rw [← this]
          unfold bOr
          rw [Int32.or_comm]
          congr 3
        rw [eor]
        refine And.intro ⟨⟨by omega, by omega⟩, by omega, by omega⟩ (And.intro rfl ?_)
        have ed : bAnd (((dg v (f + i + 1) * 2 ^ 15 + dg v (f + i) : Nat) : Int) / 2 ^ (k : Int).toNat) 32767 = (dg (v / 2 ^ (15 * f + k)) i : Int) := by
          rw [bAnd_15, Int.toNat_natCast, dg_dn v f k i hk, Int.natCast_emod, Int.natCast_ediv, Nat.add_comm]
          simp
        rw [ed]
        refine ⟨(d, i, _), ⟨rfl, by omega⟩, ?_⟩
        rintro M3 rfl
        refine And.intro ?_ trivial
        rw [show (i : Int) + 1 = ((i + 1 : Nat) : Int) by omega]
        refine ih (i + 1) _ (by omega) ((FrM.put (by omega)).keep had hA (by omega)) (hF.tr (FrM.put (by omega))) ?_
        intro j hj
        by_cases hj2 : j = i
        · rw [hj2, up2_s]
        · rw [up2_k (by omega)]
          exact hD j (by omega)
    refine run 80 [161] _ _ _ _ ?_
    repeat' first | intro h | refine And.intro ?_ ?_
    all_goals try simp only [Int.toNat_natCast] at *
    all_goals first | omega | rfl | trivial | skip
    · have q := loop m 0 M0 (by omega) hv (FrM.rf _ _) (fun j hj => by omega)
      rw [eby, show (f : Int) = -sn / 15 by omega, show (k : Int) = -sn % 15 by omega, show (m : Int) = 0 by omega] at q
      exact q
    · have q := loop m 0 M0 (by omega) hv (FrM.rf _ _) (fun j hj => by omega)
      rw [eby, show (f : Int) = -sn / 15 by omega, show (k : Int) = -sn % 15 by omega, show (m : Int) = M0 52 a - -sn / 15 by omega] at q
      exact q
  · obtain ⟨by_, eby⟩ : ∃ k : Nat, (k : Int) = sn := ⟨sn.toNat, by omega⟩
    obtain ⟨f, ef⟩ : ∃ f : Nat, f = by_ / 15 := ⟨_, rfl⟩
    obtain ⟨k, ek⟩ : ∃ k : Nat, k = by_ % 15 := ⟨_, rfl⟩
    have hk : k < 15 := by omega
    have efk : by_ = 15 * f + k := by omega
    have eV : shV v sn = v * 2 ^ k * 32768 ^ f := by
      unfold shV
      rw [if_neg hs, ← eby, Int.toNat_natCast, efk, Nat.pow_add, ← nn_pw, Nat.mul_assoc, Nat.mul_comm (2 ^ k)]
    have pk : 2 ^ k < 2 ^ 15 := Nat.pow_lt_pow_right (by decide) hk
    have pk0 : 0 < 2 ^ k := Nat.pow_pos (by decide)
    have hlt : v * 2 ^ k * 32768 ^ f < 32768 ^ (f + nd v + 1) := by
      have h1 := Nat.mul_lt_mul'' (nd_lt v) pk
      rw [show f + nd v + 1 = (nd v + 1) + f by omega, Nat.pow_add, nn_succ]
      exact Nat.mul_lt_mul_of_pos_right h1 (nn_pos f)
    subst eby
    have up : ∀ (r i : Nat) (M : Mem), i + r = nd v + 1 → MH M a v → FrM M0 M d → (∀ j, j < f + i → M 51 (420 * d + j) = (dg (v * 2 ^ k * 32768 ^ f) j : Int)) → aw 57 [some (.inr (.inr 50)), some (.inl (a : Int)), some (.inl (by_ : Int)), some (.inl (d : Int)), some (.inl (by_ : Int)), some (.inl (f : Int)), some (.inl (k : Int)), some (.inl (i : Int)), none] [] M := by
      intro r
      induction r with
      | zero =>
        intro i M hi hA hF hD
        have hA1 := hA.1
        refine run 60 [33, 57] _ _ _ _ ?_
        repeat' first | intro h | refine And.intro ?_ ?_
        all_goals try simp only [Int.toNat_natCast] at *
        all_goals first | omega | rfl | trivial | skip
        rw [hA1]
        refine ⟨(d, f + nd v + 1, v * 2 ^ k * 32768 ^ f), ⟨rfl, hd, by omega, hlt, fun j hj => hD j (by omega)⟩, ?_⟩
        rintro M2 rfl
        refine Or.inl (And.intro ?_ (hF.tr FrM.len))
        rw [eV]
        exact MH_fix (fun j hj => hD j (by omega)) hlt
      | succ r ih =>
        intro i M hi hA hF hD
        have hA1 := hA.1
        have g1 := dg_lt v i
        have g2 := dgZ_rng v ((i : Int) - 1)
        obtain ⟨y, ey⟩ : ∃ y : Nat, (y : Int) = dgZ v ((i : Int) - 1) := ⟨(dgZ v ((i : Int) - 1)).toNat, by omega⟩
        have hp15 : (32768 : Nat) = 2 ^ k * 2 ^ (15 - k) := pw_split (by omega)
        have hy2 : y / 2 ^ (15 - k) < 2 ^ k := by
          rw [Nat.div_lt_iff_lt_mul (Nat.pow_pos (by decide)), ← hp15]
          omega
        have hmul := Nat.mul_le_mul (show dg v i ≤ 32767 by omega) (show 2 ^ k ≤ 32768 by omega)
        have ebo := bOr_add (dg v i) k (y / 2 ^ (15 - k)) hy2 (by omega)
        have hzz : dg v i * 2 ^ k + y / 2 ^ (15 - k) < 2147483648 := by omega
        have edig : (dg v i * 2 ^ k + y / 2 ^ (15 - k)) % 32768 = dg (v * 2 ^ k * 32768 ^ f) (f + i) := by
          rw [dg_sh_hi]
          cases i with
          | zero =>
            have : y = 0 := by
              rw [dgZ_neg (by omega)] at ey
              omega
            rw [this, Nat.zero_div, Nat.add_zero, dg_up0]
          | succ i =>
            have : y = dg v i := by
              rw [show (((i + 1 : Nat) : Int) - 1) = (i : Int) by omega, dgZ_n] at ey
              omega
            rw [this, dg_up v k i hk]
        refine run 80 [33, 57] _ _ _ _ ?_
        repeat' first | intro h | refine And.intro ?_ ?_
        all_goals try simp only [Int.toNat_natCast] at *
        all_goals first | omega | rfl | trivial | skip
        refine ⟨(a, (i : Int), v), ⟨rfl, ha, ⟨by omega, by omega⟩, hA, by omega⟩, ?_⟩
        rintro x M1 ⟨rfl, rfl⟩
        rw [dgZ_n]
        refine And.intro ⟨by omega, by omega⟩ (And.intro rfl ?_)
        refine ⟨(a, (i : Int) - 1, v), ⟨rfl, ha, ⟨by omega, by omega⟩, hA, by omega⟩, ?_⟩
        rintro x M2 ⟨rfl, rfl⟩
        rw [← ey]
        refine And.intro ⟨⟨by omega, by omega⟩, by omega, by omega⟩ ?_
        conv => whnf
        have eor : bOr ((dg v i : Int) * 2 ^ (k : Int).toNat) ((y : Int) / 2 ^ ((15 : Int) - (k : Int)).toNat) = ((dg v i * 2 ^ k + y / 2 ^ (15 - k) : Nat) : Int) := by
          rw [← ebo, Int.toNat_natCast, show ((15 : Int) - (k : Int)).toNat = 15 - k by omega, Int.natCast_mul, Int.natCast_ediv]
          simp
        rw [eor]
        clear eor ebo
        generalize dg v i * 2 ^ k + y / 2 ^ (15 - k) = zz at *
        refine And.intro ⟨by omega, by omega, ⟨by omega, by omega⟩, ⟨by omega, by omega⟩⟩ (And.intro rfl ?_)
        rw [show (zz : Int) % 32768 = (dg (v * 2 ^ k * 32768 ^ f) (f + i) : Int) by rw [← edig, Int.natCast_emod]; rfl, show (f : Int) + (i : Int) = ((f + i : Nat) : Int) by omega]
        refine ⟨(d, f + i, _), ⟨rfl, by omega⟩, ?_⟩
        rintro M3 rfl
        refine And.intro ?_ trivial
        rw [show (i : Int) + 1 = ((i + 1 : Nat) : Int) by omega]
        refine ih (i + 1) _ (by omega) ((FrM.put (by omega)).keep had hA (by omega)) (hF.tr (FrM.put (by omega))) ?_
        intro j hj
        by_cases hj2 : j = f + i
        · rw [hj2, up2_s]
        · rw [up2_k (by omega)]
          exact hD j (by omega)
    have zer : ∀ (r i : Nat) (M : Mem), i + r = f → MH M a v → FrM M0 M d → (∀ j, j < i → M 51 (420 * d + j) = (dg (v * 2 ^ k * 32768 ^ f) j : Int)) → aw 33 [some (.inr (.inr 50)), some (.inl (a : Int)), some (.inl (by_ : Int)), some (.inl (d : Int)), some (.inl (by_ : Int)), some (.inl (f : Int)), some (.inl (k : Int)), some (.inl (i : Int)), none] [] M := by
      intro r
      induction r with
      | zero =>
        intro i M hi hA hF hD
        refine run 60 [33, 57] _ _ _ _ ?_
        repeat' first | intro h | refine And.intro ?_ ?_
        all_goals first | omega | rfl | trivial | skip
        exact up (nd v + 1) 0 M (by omega) hA hF (fun j hj => hD j (by omega))
      | succ r ih =>
        intro i M hi hA hF hD
        refine run 60 [33, 57] _ _ _ _ ?_
        repeat' first | intro h | refine And.intro ?_ ?_
        all_goals first | omega | rfl | trivial | skip
        refine ⟨(d, i, 0), ⟨rfl, by omega⟩, ?_⟩
        rintro M3 rfl
        refine And.intro ?_ trivial
        rw [show (i : Int) + 1 = ((i + 1 : Nat) : Int) by omega]
        refine ih (i + 1) _ (by omega) ((FrM.put (by omega)).keep had hA (by omega)) (hF.tr (FrM.put (by omega))) ?_
        intro j hj
        by_cases hj2 : j = i
        · rw [hj2, up2_s, dg_sh_lo (by omega)]
          rfl
        · rw [up2_k (by omega)]
          exact hD j (by omega)
    refine run 80 [33, 57] _ _ _ _ ?_
    repeat' first | intro h | refine And.intro ?_ ?_
    all_goals try simp only [Int.toNat_natCast] at *
    all_goals first | omega | rfl | trivial | skip
    have q := zer f 0 M0 (by omega) hv (FrM.rf _ _) (fun j hj => by omega)
    rw [show (f : Int) = (by_ : Int) / 15 by omega, show (k : Int) = (by_ : Int) % 15 by omega] at q
    exact q
theorem imX8_shifted {l : Launch} {Z : ZT} (hZ : ZOk Z) : Impl l Z yX8_shifted cX8_shifted 9 none 2 c_shifted := mkImpl (rt := 0) (CL := [(76, some 8, c_at), (80, some 8, c_put), (85, some 8, c_fix)]) hZ.1 hZ.2.1 (by decide +kernel) kX8_shifted fwX8 iwX8 lwX8 trivial (Nat.le_of_ble_eq_true rfl) (List.forall_mem_cons.mpr ⟨gX8_76 hZ (by decide), List.forall_mem_cons.mpr ⟨gX8_80 hZ (by decide), List.forall_mem_cons.mpr ⟨gX8_85 hZ (by decide), fun q h => absurd h List.not_mem_nil⟩⟩⟩) ((v_shifted _))
theorem gX8_162 {l : Launch} {Z : ZT} (hZ : ZOk Z) {d : Nat} (hd : 3 ≤ d) : CallI l Z RX8 d (162, some 8, c_shifted) := fun p e s m args below meth c Q cc nL x0 X => callOk_V X (imX8_shifted hZ) (by decide) rfl mlX8_162 iw_yX8_shifted vw_yX8_shifted nw_RX8 cw_yX8_shifted ⟨by decide +kernel, by decide +kernel, by decide +kernel⟩ ⟨hd, by decide⟩
