/-! ===== the reference: root ===== -/
def sqF (v : Nat) : Nat := match v with
  | 0 => 0
  | v + 1 => if (sqF v + 1) * (sqF v + 1) ≤ v + 1 then sqF v + 1 else sqF v
theorem sqF_sq (v : Nat) : sqF v * sqF v ≤ v ∧ v < (sqF v + 1) * (sqF v + 1) := by
  induction v with
  | zero => decide
  | succ v ih =>
    rw [sqF]
    split
    · refine ⟨by assumption, ?_⟩
      have := ih.2
      generalize sqF v = s at *
      have e : (s + 1 + 1) * (s + 1 + 1) = (s + 1) * (s + 1) + (2 * s + 3) := by grind
      omega
    · omega
theorem sqF_le {t v : Nat} : t ≤ sqF v ↔ t * t ≤ v := by
  have h := sqF_sq v
  constructor
  · intro a
    exact Nat.le_trans (Nat.mul_le_mul a a) h.1
  · intro a
    refine Nat.le_of_lt_succ (Nat.lt_of_not_le (fun c => ?_))
    have c' : sqF v + 1 ≤ t := c
    have := Nat.mul_le_mul c' c'
    omega
theorem sqF_lt {t v : Nat} : sqF v < t ↔ v < t * t := by
  have := sqF_le (t := t) (v := v)
  omega
theorem bAndNot (y k : Nat) (h : y * 2 ^ (k + 1) + 2 ^ k < 2147483648) : bAnd ((y * 2 ^ (k + 1) + 2 ^ k : Nat) : Int) (bXor ((2 ^ k : Nat) : Int) (-1)) = ((y * 2 ^ (k + 1) : Nat) : Int) := by
  have hk : 2 ^ k < 2 ^ (k + 1) := Nat.pow_lt_pow_right (by decide) (by omega)
  have e : Int32.ofNat (y * 2 ^ (k + 1) + 2 ^ k) &&& (Int32.ofNat (2 ^ k) ^^^ Int32.ofInt (-1)) = Int32.ofNat (y * 2 ^ (k + 1)) := by
    apply Int32.toBitVec.inj
    show BitVec.ofNat 32 (y * 2 ^ (k + 1) + 2 ^ k) &&& (BitVec.ofNat 32 (2 ^ k) ^^^ BitVec.allOnes 32) = BitVec.ofNat 32 (y * 2 ^ (k + 1))
    apply BitVec.eq_of_getLsbD_eq
    intro i hi
    rw [BitVec.getLsbD_and, BitVec.getLsbD_xor, BitVec.getLsbD_allOnes, BitVec.getLsbD_ofNat, BitVec.getLsbD_ofNat, BitVec.getLsbD_ofNat, Nat.mul_comm y, Nat.testBit_two_pow_mul_add _ hk, Nat.testBit_two_pow, Nat.testBit_two_pow_mul]
    by_cases h1 : i < k + 1
    · by_cases h2 : k = i
      · subst h2
        simp [hi]
        intro c
        omega
      · simp [hi, h1, h2]
        intro c
        omega
    · have h2 : ¬ k = i := by omega
      have h3 : k + 1 ≤ i := by omega
      simp [hi, h1, h2, h3]
  unfold bAnd bXor
  rw [Int32.ofInt_toInt, Int32.ofInt_eq_ofNat, Int32.ofInt_eq_ofNat, e]
  exact nI_toInt (by omega)
/-- one bit more below bits that are zero -/
theorem dg_bit (x K k : Nat) (hk : k < 15) : dg (x * 2 ^ (15 * K + k + 1)) K = x % 2 ^ (14 - k) * 2 ^ (k + 1) ∧ dg ((2 * x + 1) * 2 ^ (15 * K + k)) K = x % 2 ^ (14 - k) * 2 ^ (k + 1) + 2 ^ k ∧ ∀ j, j ≠ K → dg ((2 * x + 1) * 2 ^ (15 * K + k)) j = dg (x * 2 ^ (15 * K + k + 1)) j := by
  have hp : 0 < 2 ^ k := Nat.pow_pos (by decide)
  have e1 : x * 2 ^ (15 * K + k + 1) = x * 2 ^ (k + 1) * 32768 ^ K := by
    rw [show 15 * K + k + 1 = (k + 1) + 15 * K by omega, Nat.pow_add, nn_pw, Nat.mul_assoc]
  have e2 : (2 * x + 1) * 2 ^ (15 * K + k) = (2 * x + 1) * 2 ^ k * 32768 ^ K := by
    rw [show 15 * K + k = k + 15 * K by omega, Nat.pow_add, nn_pw, Nat.mul_assoc]
  have e3 : x * 2 ^ (k + 1) = 2 * x * 2 ^ k := by rw [Nat.pow_succ]; grind
  have e4 : (32768 : Nat) = 2 ^ (15 - k) * 2 ^ k := by rw [← Nat.pow_add, show 15 - k + k = 15 by omega]
  have e5 : 2 ^ (15 - k) = 2 * 2 ^ (14 - k) := by rw [show 15 - k = (14 - k) + 1 by omega, Nat.pow_succ, Nat.mul_comm]
  have hq : 0 < 2 ^ (14 - k) := Nat.pow_pos (by decide)
  have d0 : ∀ z : Nat, dg (z * 2 ^ k) 0 = z % 2 ^ (15 - k) * 2 ^ k := by
    intro z
    show z * 2 ^ k / 32768 ^ 0 % 32768 = _
    rw [Nat.pow_zero, Nat.div_one, e4, Nat.mul_mod_mul_right]
  have d1 : ∀ z : Nat, z * 2 ^ k / 32768 = z / 2 ^ (15 - k) := by
    intro z
    rw [e4, Nat.mul_div_mul_right _ _ hp]
  have m1 : 2 * x % 2 ^ (15 - k) = 2 * (x % 2 ^ (14 - k)) := by rw [e5, Nat.mul_mod_mul_left]
  have m2 : (2 * x + 1) % 2 ^ (15 - k) = 2 * (x % 2 ^ (14 - k)) + 1 := by
    rw [e5]
    have h1 := Nat.mod_add_div x (2 ^ (14 - k))
    have h2 := Nat.mod_lt x hq
    generalize x % 2 ^ (14 - k) = r at *
    generalize x / 2 ^ (14 - k) = w at *
    generalize 2 ^ (14 - k) = c at *
    rw [← h1, show 2 * (r + c * w) + 1 = (2 * r + 1) + 2 * c * w by grind, Nat.add_mul_mod_self_left]
    exact Nat.mod_eq_of_lt (by omega)
  have m3 : (2 * x + 1) / 2 ^ (15 - k) = 2 * x / 2 ^ (15 - k) := by
    rw [e5, ← Nat.div_div_eq_div_mul, ← Nat.div_div_eq_div_mul]
    congr 1
    omega
  have f0 : ∀ z, dg (z * 32768 ^ K) K = dg z 0 := by
    intro z
    have := dg_sh_hi z K 0 0
    simpa using this
  refine ⟨?_, ?_, fun j hj => ?_⟩
  · rw [e1, f0, e3, d0, m1, Nat.pow_succ]
    grind
  · rw [e2, f0, d0, m2, Nat.pow_succ]
    grind
  · rw [e1, e2]
    by_cases h : j < K
    · rw [dg_sh_lo (v := 2 * x + 1) h, dg_sh_lo h]
    · obtain ⟨i, rfl⟩ : ∃ i, j = K + (i + 1) := ⟨j - K - 1, by omega⟩
      rw [dg_sh_hi (2 * x + 1), dg_sh_hi, ← dg_div, ← dg_div, d1, e3, d1, m3]
/-- the trial numbers have just n digits -/
theorem sq_tr {s n i : Nat} (h1 : s < 32768 ^ n) (h2 : 32768 ^ (n - 1) ≤ s) (hi : i < 15 * n) : nd ((2 * (s / 2 ^ (i + 1)) + 1) * 2 ^ i) = n := by
  have hp : 0 < 2 ^ i := Nat.pow_pos (by decide)
  have hp1 : 0 < 2 ^ (i + 1) := Nat.pow_pos (by decide)
  have a1 : nd ((2 * (s / 2 ^ (i + 1)) + 1) * 2 ^ i) ≤ n := by
    refine nd_le.mpr ?_
    rw [nn_pw] at h1 ⊢
    have e : 2 ^ (15 * n) = 2 ^ (15 * n - (i + 1)) * 2 ^ (i + 1) := by rw [← Nat.pow_add, show 15 * n - (i + 1) + (i + 1) = 15 * n by omega]
    have hx : s / 2 ^ (i + 1) < 2 ^ (15 * n - (i + 1)) := (Nat.div_lt_iff_lt_mul hp1).mpr (by rw [← e]; exact h1)
    have := Nat.mul_le_mul_right (2 ^ (i + 1)) (Nat.succ_le_of_lt hx)
    rw [← e] at this
    refine Nat.lt_of_lt_of_le ?_ this
    rw [Nat.pow_succ]
    generalize s / (2 ^ i * 2) = x
    generalize 2 ^ i = p at *
    have e1 : (2 * x + 1) * p = x * (p * 2) + p := by grind
    have e2 : (x + 1) * (p * 2) = x * (p * 2) + p * 2 := by grind
    show _ < (x + 1) * (p * 2)
    omega
  have a2 : n - 1 < nd ((2 * (s / 2 ^ (i + 1)) + 1) * 2 ^ i) := by
    refine nd_gt.mpr ?_
    by_cases c : 15 * (n - 1) ≤ i
    · rw [nn_pw]
      refine Nat.le_trans (Nat.pow_le_pow_right (by decide) c) ?_
      exact Nat.le_mul_of_pos_left _ (by omega)
    · have e : 32768 ^ (n - 1) = 2 ^ (15 * (n - 1) - (i + 1)) * 2 ^ (i + 1) := by rw [nn_pw, ← Nat.pow_add, show 15 * (n - 1) - (i + 1) + (i + 1) = 15 * (n - 1) by omega]
      have hx : 2 ^ (15 * (n - 1) - (i + 1)) ≤ s / 2 ^ (i + 1) := (Nat.le_div_iff_mul_le hp1).mpr (by rw [← e]; exact h2)
      rw [e]
      refine Nat.le_trans (Nat.mul_le_mul_right _ hx) ?_
      rw [Nat.pow_succ]
      generalize s / (2 ^ i * 2) = x
      generalize 2 ^ i = p at *
      have : (2 * x + 1) * p = x * (p * 2) + p := by grind
      omega
  omega
theorem sq_bit (s i : Nat) : ((2 * (s / 2 ^ (i + 1)) + 1) * 2 ^ i ≤ s → s / 2 ^ i * 2 ^ i = (2 * (s / 2 ^ (i + 1)) + 1) * 2 ^ i) ∧ (s < (2 * (s / 2 ^ (i + 1)) + 1) * 2 ^ i → s / 2 ^ i * 2 ^ i = s / 2 ^ (i + 1) * 2 ^ (i + 1)) := by
  have hp : 0 < 2 ^ i := Nat.pow_pos (by decide)
  have e : s / 2 ^ (i + 1) = s / 2 ^ i / 2 := by rw [Nat.pow_succ, Nat.div_div_eq_div_mul]
  rw [e]
  constructor
  · intro h
    have := (Nat.le_div_iff_mul_le hp).mpr h
    congr 1
    omega
  · intro h
    have := (Nat.div_lt_iff_lt_mul hp).mpr h
    rw [Nat.pow_succ]
    have : s / 2 ^ i = s / 2 ^ i / 2 * 2 := by omega
    generalize s / 2 ^ i / 2 = x at *
    rw [this]
    grind
def rotF (n : Nn) (q : RS) (d a : Int) : Int × RS := if Lv n q d ∧ Lv n q a then tcR n 0 q ((3 * (nd (q.2.2.2 a.toNat) + 1) : Nat) : Int) (fun t1 q1 => cmR n t1 q1 d.toNat (sqF (q.2.2.2 a.toNat))) else (-2, q)
theorem v_root (n0 : Nn) : Ver tX8_root (fdX8, icX8, lcX8, [(138, some 8, c_isLiveL), (131, some 8, c_take), (101, some 8, c_copy), (80, some 8, c_put), (108, some 8, c_product), (91, some 8, c_compared), (85, some 8, c_fix), (153, some 8, c_comes)]) 1 5 n0 (cN2 rotF) := by
  rintro ⟨n, q, d, a⟩ vs M0 ⟨rfl, id, ia, R⟩ aw run
  have l52 : lnF n0 52 = 37 := rfl
  have l54 : lnF n0 54 = 24 := rfl
  have l55 : lnF n0 55 = 24 := rfl
  have bad : ¬ (Lv n q d ∧ Lv n q a) → aw 16 [some (.inr (.inr 50)), some (.inl d), some (.inl a), none, none] [] M0 := by
    intro hb
    have e : rotF n q d a = (-2, q) := if_neg hb
    refine run 60 [] _ _ _ _ ?_
    refine Or.inl ?_
    show -2 = (rotF n q d a).1 ∧ RN n M0 0 (rotF n q d a).2 ∧ FN M0 M0
    rw [e]
    exact ⟨rfl, R, FN.rf _⟩
  change aw 0 [some (.inr (.inr 50)), some (.inl d), some (.inl a), none, none] [] M0
  refine run 90 [16, 61] _ _ _ _ ?_
  refine And.intro rfl ⟨(n, 0, q, d), ⟨rfl, id, R⟩, ?_⟩
  rintro x M0 ⟨⟨rfl, hd⟩ | ⟨rfl, hd⟩, rfl⟩
  rotate_left
  · refine And.intro ⟨⟨by omega, by omega⟩, ⟨by omega, by omega⟩⟩ (And.intro (fun _ => ?_) (fun c2 => absurd c2 (by omega)))
    exact And.intro (bad (fun z => hd z.1)) trivial
  refine And.intro ⟨⟨by omega, by omega⟩, ⟨by omega, by omega⟩⟩ (And.intro (fun c1 => absurd c1 (by omega)) (fun _ => ?_))
  refine And.intro rfl ⟨(n, 0, q, a), ⟨rfl, ia, R⟩, ?_⟩
  rintro x M0 ⟨⟨rfl, ha⟩ | ⟨rfl, ha⟩, rfl⟩
  rotate_left
  · refine And.intro ⟨⟨by omega, by omega⟩, ⟨by omega, by omega⟩⟩ (And.intro (fun c1 => absurd c1 (by omega)) (fun _ => ?_))
    exact And.intro (bad (fun z => ha z.2)) trivial
  refine And.intro ⟨⟨by omega, by omega⟩, ⟨by omega, by omega⟩⟩ (And.intro (fun _ => ?_) (fun c2 => absurd c2 (by omega)))
  have b2 := R.n24
  obtain ⟨d, rfl, d_1, d_2⟩ := hd.nat
  have Ad := R.at d_1 d_2
  obtain ⟨a, rfl, a_1, a_2⟩ := ha.nat
  have Aa := R.at a_1 a_2
  have L0 := And.intro (Lv.of d_1 d_2) (Lv.of a_1 a_2)
  have e : rotF n q d a = tcR n 0 q ((3 * (nd (q.2.2.2 a) + 1) : Nat) : Int) (fun t1 q1 => cmR n t1 q1 d (sqF (q.2.2.2 a))) := if_pos L0
  have ea := Aa.2.2.2.2.2.2.2
  have l51 : lnF n0 51 = 15540 := rfl
  refine And.intro rfl (And.intro ⟨rfl, by omega, by omega⟩ ?_)
  conv => whnf
  rw [Int.toNat_natCast, ea]
  refine And.intro rfl ⟨(n, 0, (q).1, (q).2.1, ((3 * (nd (q.2.2.2 a) + 1) : Nat) : Int)), ⟨rfl, R.1, by omega, by omega, by omega⟩, ?_⟩
  rintro x M1 hp1
  obtain ⟨tk1, pl1, rm1, sl1, ho1, ht1, R1, rk1, hF1⟩ := R.take hp1
  clear hp1
  rcases ho1 with ⟨rfl, hu1⟩ | ⟨rfl, h0, hu1⟩
  rotate_left
  · refine And.intro ⟨⟨by omega, by omega⟩, ⟨by omega, by omega⟩⟩ (And.intro (fun c1 => absurd c1 (by omega)) (fun _ => ?_))
    refine Or.inl ?_
    show -4 = ((rotF n q d a)).1 ∧ RN n M1 0 ((rotF n q d a)).2 ∧ FN M0 M1
    rw [e, hu1]
    subst h0
    exact ⟨rfl, R1, hF1.N⟩
  refine And.intro ⟨⟨by omega, by omega⟩, ⟨by omega, by omega⟩⟩ (And.intro (fun _ => ?_) (fun c2 => absurd c2 (by omega)))
  have d1 : 0 < rm1 d := ltE d_2 (rk1 d d_1)
  have a1 : 0 < rm1 a := ltE a_2 (rk1 a a_1)
  have na := Aa.2.2.2.2.1
  obtain ⟨v, ev⟩ : ∃ v, v = q.2.2.2 a := ⟨_, rfl⟩
  obtain ⟨N, eN⟩ : ∃ N, N = (nd v + 1) / 2 := ⟨_, rfl⟩
  rw [← ev] at na e ea hu1
  have s1 : sqF v < 32768 ^ N := by
    refine sqF_lt.mpr ?_
    rw [← Nat.pow_add]
    exact nd_le.mp (by omega)
  have s2 : v ≠ 0 → 32768 ^ (N - 1) ≤ sqF v := by
    intro hv
    refine sqF_le.mpr ?_
    rw [← Nat.pow_add]
    have : nd v ≠ 0 := fun z => hv (nd_z.mp z)
    exact nd_gt.mp (by omega)
  have loop : ∀ (m : Nat) (M : Mem), m ≤ 15 * N → (∀ j, j < N → M 51 (420 * 24 + j) = (dg (sqF v / 2 ^ m * 2 ^ m) j : Int)) → M 52 24 = (N : Int) → MH M 25 v → RN n M tk1 (pl1, rm1, sl1, q.2.2.2) → FN M0 M → aw 98 [some (.inr (.inr 50)), some (.inl (d : Int)), some (.inl (a : Int)), some (.inl (N : Int)), some (.inl ((m : Int) - 1))] [] M := by
    intro m
    induction m with
    | zero =>
      intro M _ hD hl hv RM fM
      rw [Nat.pow_zero, Nat.div_one, Nat.mul_one] at hD
      have hns : nd (sqF v) ≤ N := nd_le.mpr s1
      refine run 60 [98] _ _ _ _ ?_
      refine And.intro ⟨⟨by omega, by omega⟩, ⟨by omega, by omega⟩⟩ (And.intro (fun _ => ?_) (fun c2 => absurd c2 (by omega)))
      refine And.intro rfl ⟨(24, N, sqF v), ⟨rfl, by omega, by omega, s1, hD⟩, ?_⟩
      rintro M2 rfl
      have hx := MH_fix hD s1
      have hF2 : FrM M _ 24 := FrM.len (x := (nd (sqF v) : Int))
      have R2 := RM.fm hF2 (by omega)
      refine And.intro rfl ⟨(n, tk1, pl1, rm1, 24, d, sqF v), ⟨rfl, R2.1, by omega, d_1, (R2.at d_1 d1).1, by omega, by omega, hx, by omega⟩, ?_⟩
      rintro x M3 hp
      obtain ⟨c1, c2, c3⟩ := R2.com d_1 d1 (by omega) hp
      refine Or.inl ?_
      show x = ((rotF n q d a)).1 ∧ RN n M3 0 ((rotF n q d a)).2 ∧ FN M0 M3
      rw [e, hu1]
      exact ⟨c1, c2, (fM.tr hF2.N).tr c3⟩
    | succ i ih =>
      intro M hi hD hl hv RM fM
      have v0 : v ≠ 0 := fun z => by rw [z, nd_0] at eN; omega
      rw [show (((i + 1 : Nat) : Int) - 1) = (i : Int) by omega]
      obtain ⟨K, k, ei, hk⟩ : ∃ K k, i = 15 * K + k ∧ k < 15 := ⟨i / 15, i % 15, by omega, by omega⟩
      obtain ⟨b1, b2, b3⟩ := dg_bit (sqF v / 2 ^ (i + 1)) K k hk
      rw [← ei] at b1 b2 b3
      have hnd := sq_tr s1 (s2 v0) (i := i) (by omega)
      have hsb := sq_bit (sqF v) i
      generalize eX : sqF v / 2 ^ (i + 1) = X at *
      have hlt := dg_lt ((2 * X + 1) * 2 ^ i) K
      have pk : 2 ^ k < 2 ^ (k + 1) := Nat.pow_lt_pow_right (by decide) (by omega)
      have eK : (i : Int) / 15 = (K : Int) := by omega
      have ek : (i : Int) % 15 = (k : Int) := by omega
      have KN : K < N := by omega
      have e2k : (1 : Int) * 2 ^ ((k : Int)).toNat = ((2 ^ k : Nat) : Int) := by simp
      have eix : ((10080 : Int) + (K : Int)).toNat = 420 * 24 + K := by omega
      have hor : bOr (M 51 (420 * 24 + K)) ((2 ^ k : Nat) : Int) = (dg ((2 * X + 1) * 2 ^ i) K : Int) := by
        rw [hD K KN, b1, b2]
        exact bOr_add _ _ _ pk (by omega)
      have hno : bAnd (dg ((2 * X + 1) * 2 ^ i) K : Int) (bXor ((2 ^ k : Nat) : Int) (-1)) = (dg (X * 2 ^ (i + 1)) K : Int) := by
        rw [b1, b2]
        exact bAndNot _ _ (by omega)
      refine run 60 [98] _ _ _ _ ?_
      refine And.intro ⟨⟨by omega, by omega⟩, ⟨by omega, by omega⟩⟩ (And.intro (fun c1 => absurd c1 (by omega)) (fun _ => ?_))
      refine And.intro ⟨by omega, by omega, ⟨by omega, by omega⟩, ⟨by omega, by omega⟩⟩ (And.intro rfl (And.intro ⟨by omega, by omega, ⟨by omega, by omega⟩, ⟨by omega, by omega⟩⟩ (And.intro ⟨rfl, by omega, by omega⟩ (And.intro ⟨by omega, by omega, ⟨by omega, by omega⟩, ⟨by omega, by omega⟩⟩ (And.intro ⟨by omega, by omega⟩ ?_)))))
      conv => whnf
      rw [eK, ek, e2k, eix, hor]
      refine And.intro rfl ⟨(24, K, _), ⟨rfl, by omega⟩, ?_⟩
      rintro M2 rfl
      have hF2 : FrM M _ 24 := FrM.put (x := (dg ((2 * X + 1) * 2 ^ i) K : Int)) (i := K) (by omega)
      have hT : MH (up2 M 51 (420 * 24 + K) (dg ((2 * X + 1) * 2 ^ i) K : Int)) 24 ((2 * X + 1) * 2 ^ i) := by
        refine ⟨?_, fun j hj => ?_⟩
        · rw [up2_i (by decide), hl, hnd]
        · show up2 M 51 (420 * 24 + K) _ 51 (420 * 24 + j) = _
          by_cases c : j = K
          · rw [c, up2_s]
          · rw [up2_k (by omega), hD j (by omega), b3 j c]
      generalize up2 M 51 (420 * 24 + K) (dg ((2 * X + 1) * 2 ^ i) K : Int) = M2 at *
      have R2 := RM.fm hF2 (by omega)
      refine And.intro rfl ⟨(24, 24, 26, (2 * X + 1) * 2 ^ i, (2 * X + 1) * 2 ^ i), ⟨rfl, by omega, by omega, by omega, by omega, by omega, hT, hT, by omega⟩, ?_⟩
      rintro M3 ⟨hC, hF3⟩
      have R3 := R2.fm hF3 (by omega)
      have hT3 := hF3.keep (by omega) hT (by omega)
      have hv3 := hF3.keep (by omega) (hF2.keep (by omega) hv (by omega)) (by omega)
      have fM3 := (fM.tr hF2.N).tr hF3.N
      have nC := nd_pr ((2 * X + 1) * 2 ^ i) ((2 * X + 1) * 2 ^ i)
      refine And.intro rfl ⟨(26, 25, (2 * X + 1) * 2 ^ i * ((2 * X + 1) * 2 ^ i), v), ⟨rfl, by omega, by omega, hC, by omega, hv3, by omega⟩, ?_⟩
      rintro x M3 ⟨rfl, rfl⟩
      have cc := cm3_cases ((2 * X + 1) * 2 ^ i * ((2 * X + 1) * 2 ^ i)) v
      refine And.intro ⟨⟨by omega, by omega⟩, ⟨by omega, by omega⟩⟩ (And.intro (fun c1 => ?_) (fun c2 => ?_))
      · have h3 : (2 * X + 1) * 2 ^ i ≤ sqF v := sqF_le.mpr (by omega)
        refine And.intro ?_ trivial
        refine ih M3 (by omega) (fun j hj => ?_) ?_ hv3 R3 fM3
        · rw [hsb.1 h3]
          exact hT3.2 j (by omega)
        · rw [hT3.1, hnd]
      · have h3 : sqF v < (2 * X + 1) * 2 ^ i := sqF_lt.mpr (by omega)
        refine And.intro ⟨by omega, by omega, ⟨by omega, by omega⟩, ⟨by omega, by omega⟩⟩ (And.intro rfl (And.intro ⟨by omega, by omega, ⟨by omega, by omega⟩, ⟨by omega, by omega⟩⟩ (And.intro ⟨rfl, by omega, by omega⟩ (And.intro ⟨by omega, by omega, ⟨by omega, by omega⟩, ⟨by omega, by omega⟩⟩ (And.intro ⟨by omega, by omega⟩ ?_)))))
        conv => whnf
        have e6 : M3 51 (420 * 24 + K) = (dg ((2 * X + 1) * 2 ^ i) K : Int) := hT3.2 K (by omega)
        rw [eK, ek, e2k, eix, e6, hno]
        refine And.intro rfl ⟨(24, K, _), ⟨rfl, by omega⟩, ?_⟩
        rintro M4 rfl
        have hF4 : FrM M3 _ 24 := FrM.put (x := (dg (X * 2 ^ (i + 1)) K : Int)) (i := K) (by omega)
        refine And.intro ?_ trivial
        refine ih _ (by omega) (fun j hj => ?_) ?_ (hF4.keep (by omega) hv3 (by omega)) (R3.fm hF4 (by omega)) (fM3.tr hF4.N)
        · rw [hsb.2 h3]
          by_cases c : j = K
          · rw [c, up2_s]
          · rw [up2_k (by omega), ← b3 j c]
            exact hT3.2 j (by omega)
        · rw [up2_i (by decide), hT3.1, hnd]
  have zer : ∀ (r i : Nat) (M : Mem), i + r = N → (∀ j, j < i → M 51 (420 * 24 + j) = 0) → MH M 25 v → RN n M tk1 (pl1, rm1, sl1, q.2.2.2) → FN M0 M → aw 61 [some (.inr (.inr 50)), some (.inl (d : Int)), some (.inl (a : Int)), some (.inl (N : Int)), some (.inl (i : Int))] [] M := by
    intro r
    induction r with
    | zero =>
      intro i M hi hD hv RM fM
      obtain rfl : i = N := by omega
      refine run 60 [61, 98] _ _ _ _ ?_
      refine And.intro ⟨⟨by omega, by omega⟩, ⟨by omega, by omega⟩⟩ (And.intro (fun _ => ?_) (fun c2 => absurd c2 (by omega)))
      refine And.intro rfl (And.intro ⟨rfl, by omega, by omega⟩ (And.intro ?_ trivial))
      have hF2 : FrM M _ 24 := FrM.len (x := (i : Int))
      have e0 : sqF v / 2 ^ (15 * i) * 2 ^ (15 * i) = 0 := by
        rw [nn_pw] at s1
        rw [Nat.div_eq_of_lt s1, Nat.zero_mul]
      have := loop (15 * i) _ (Nat.le_refl _) (fun j hj => ?_) ?_ (hF2.keep (by omega) hv (by omega)) (RM.fm hF2 (by omega)) (fM.tr hF2.N)
      · rw [show ((15 * i : Nat) : Int) = 15 * (i : Int) by omega] at this
        exact this
      · rw [e0, up2_i (by decide), hD j hj, dg_z (by rw [nd_0]; omega)]
        rfl
      · exact up2_s
    | succ r ih =>
      intro i M hi hD hv RM fM
      refine run 60 [61, 98] _ _ _ _ ?_
      refine And.intro ⟨⟨by omega, by omega⟩, ⟨by omega, by omega⟩⟩ (And.intro (fun c1 => absurd c1 (by omega)) (fun _ => ?_))
      refine And.intro rfl ⟨(24, i, 0), ⟨rfl, by omega⟩, ?_⟩
      rintro M2 rfl
      have hF2 : FrM M _ 24 := FrM.put (x := 0) (i := i) (by omega)
      refine And.intro ?_ trivial
      refine ih (i + 1) _ (by omega) (fun j hj => ?_) (hF2.keep (by omega) hv (by omega)) (RM.fm hF2 (by omega)) (fM.tr hF2.N)
      by_cases c : j = i
      · rw [c, up2_s]
      · rw [up2_k (by omega)]
        exact hD j (by omega)
  have Aa1 := R1.at a_1 a1
  refine And.intro rfl ⟨(a, 25, v), ⟨rfl, by omega, by omega, by rw [ev]; exact Aa1.2.2.2.1, by omega⟩, ?_⟩
  rintro M2 ⟨hv2, hF2⟩
  have h25 := hv2.1
  refine And.intro rfl (And.intro ⟨rfl, by omega, by omega⟩ ?_)
  refine And.intro ⟨?_, by omega, ?_, ⟨by omega, by omega⟩⟩ (And.intro ?_ trivial)
  · show 0 ≤ M2 52 25 + 1
    omega
  · show inR (M2 52 25 + 1)
    unfold inR
    omega
  show aw 61 [some (.inr (.inr 50)), some (.inl (d : Int)), some (.inl (a : Int)), some (.inl ((M2 52 25 + 1) / 2)), some (.inl 0)] [] M2
  rw [show (M2 52 25 + 1) / 2 = (N : Int) by omega]
  exact zer N 0 M2 (by omega) (fun j hj => by omega) hv2 (R1.fm hF2 (by omega)) (hF1.N.tr hF2.N)
theorem imX8_root {l : Launch} {Z : ZT} (hZ : ZOk Z) : Impl l Z yX8_root cX8_root 5 (some .int) 4 (cN2 rotF) := mkImpl (rt := 1) (CL := [(138, some 8, c_isLiveL), (131, some 8, c_take), (101, some 8, c_copy), (80, some 8, c_put), (108, some 8, c_product), (91, some 8, c_compared), (85, some 8, c_fix), (153, some 8, c_comes)]) hZ.1 hZ.2.1 (by decide +kernel) kX8_root fwX8 iwX8 lwX8 trivial (Nat.le_of_ble_eq_true rfl) (List.forall_mem_cons.mpr ⟨gX8_138_L hZ (by decide), List.forall_mem_cons.mpr ⟨gX8_131 hZ (by decide), List.forall_mem_cons.mpr ⟨gX8_101 hZ (by decide), List.forall_mem_cons.mpr ⟨gX8_80 hZ (by decide), List.forall_mem_cons.mpr ⟨gX8_108 hZ (by decide), List.forall_mem_cons.mpr ⟨gX8_91 hZ (by decide), List.forall_mem_cons.mpr ⟨gX8_85 hZ (by decide), List.forall_mem_cons.mpr ⟨gX8_153 hZ (by decide), fun q h => absurd h List.not_mem_nil⟩⟩⟩⟩⟩⟩⟩⟩) ((v_root _))
