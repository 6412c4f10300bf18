/-! ===== the reference: text ===== -/
abbrev OS : Type := Nat × (Nat → Int)
def RO (M : Mem) (O : OS) : Prop := M 50 15 = (O.1 : Int) ∧ O.1 ≤ 970 ∧ ∀ i, i < O.1 → M 59 i = O.2 i
/-- how many digits v has to the base b -/
def tcB (b v : Nat) : Nat := if h : 2 ≤ b ∧ v / b ≠ 0 then tcB b (v / b) + 1 else 1
termination_by v
decreasing_by exact Nat.div_lt_self (Nat.pos_of_ne_zero (fun z => h.2 (by rw [z, Nat.zero_div]))) h.1
theorem tcB_1 {b v : Nat} (h : v / b = 0) : tcB b v = 1 := by rw [tcB, dif_neg (fun z => z.2 h)]
theorem tcB_s {b v : Nat} (hb : 2 ≤ b) (h : v / b ≠ 0) : tcB b v = tcB b (v / b) + 1 := by rw [tcB, dif_pos ⟨hb, h⟩]
theorem tcB_le {b : Nat} (hb : 2 ≤ b) : ∀ (k v : Nat), v < 2 ^ (k + 1) → tcB b v ≤ k + 1 := by
  intro k
  induction k with
  | zero =>
    intro v hv
    rw [tcB_1 (Nat.div_eq_of_lt (by simp at hv; omega))]
    exact Nat.le_refl _
  | succ k ih =>
    intro v hv
    by_cases h : v / b = 0
    · rw [tcB_1 h]
      omega
    · rw [tcB_s hb h]
      have h2 : v / b < 2 ^ (k + 1) := by
        rw [Nat.div_lt_iff_lt_mul (by omega)]
        refine Nat.lt_of_lt_of_le hv ?_
        rw [Nat.pow_succ]
        exact Nat.mul_le_mul_left _ hb
      have := ih (v / b) h2
      omega
theorem tcB_pos {b v : Nat} : 1 ≤ tcB b v := by
  rw [tcB]
  split <;> omega
def chB (r : Nat) : Int := if r < 10 then 48 + (r : Int) else 97 + (r : Int) - 10
/-- a limb of the quotient by a small number -/
theorem dv_dg {v b k : Nat} (hb : 0 < b) : ((v / 32768 ^ (k + 1) % b) * 32768 + dg v k) / b = dg (v / b) k ∧ ((v / 32768 ^ (k + 1) % b) * 32768 + dg v k) % b = v / 32768 ^ k % b := by
  have e1 := dv_s v k
  have e2 : v / b / 32768 ^ k = v / 32768 ^ k / b := by rw [Nat.div_div_eq_div_mul, Nat.div_div_eq_div_mul, Nat.mul_comm]
  have h1 := dg_lt v k
  unfold dg at *
  rw [e2]
  generalize v / 32768 ^ k = x at *
  generalize v / 32768 ^ (k + 1) = w at *
  generalize hd : x % 32768 = d at *
  have h2 := Nat.mod_lt w hb
  have h3 := Nat.mod_add_div w b
  have e3 : x = (w % b * 32768 + d) + b * (w / b * 32768) := by
    rw [e1]
    generalize w % b = s at *
    generalize w / b = t at *
    rw [← h3]
    grind
  have h4 : w % b * 32768 + d < b * 32768 := by
    have := Nat.mul_le_mul_right 32768 (Nat.succ_le_of_lt h2)
    rw [Nat.succ_mul] at this
    omega
  have h5 : (w % b * 32768 + d) / b < 32768 := by
    rw [Nat.div_lt_iff_lt_mul hb, Nat.mul_comm 32768 b]
    exact h4
  constructor
  · rw [e3, Nat.add_mul_div_left _ _ hb, Nat.add_mul_mod_self_right, Nat.mod_eq_of_lt h5]
  · rw [e3, Nat.add_mul_mod_self_left]
def txF (n : Nn) (q : RS) (O : OS) (a b : Int) : Int × OS := if Lv n q a then (if 2 ≤ b ∧ b ≤ 36 then ((tcB b.toNat (q.2.2.2 a.toNat) : Int), (tcB b.toNat (q.2.2.2 a.toNat), fun i => chB (q.2.2.2 a.toNat / b.toNat ^ (tcB b.toNat (q.2.2.2 a.toNat) - 1 - i) % b.toNat))) else (-3, O)) else (-2, O)
def FTx (M M' : Mem) : Prop := (∀ o, o ≠ 50 → o ≠ 51 → o ≠ 52 → o ≠ 59 → M' o = M o) ∧ ∀ j, j ≠ 15 → M' 50 j = M 50 j
def c_text : Call := ⟨Nn × RS × OS × Int × Int, 3, (fun (n, q, O, a, b) vs M => vs = [.inr (.inr 50), .inl a, .inl b] ∧ inR a ∧ inR b ∧ RN n M 0 q ∧ RO M O), .inr (fun (n, q, O, a, b) _ M x M' => x = (txF n q O a b).1 ∧ RO M' (txF n q O a b).2 ∧ RN n M' 0 q ∧ FTx M M')⟩
/-- rows of the numbers may have changed, and what lies beyond them -/
theorem RN.fx {n : Nn} {M M' : Mem} {tk : Nat} {q : RS} (R : RN n M tk q) (h50 : ∀ j, j ≠ 15 → M' 50 j = M 50 j) (h53 : ∀ o, 53 ≤ o → o ≤ 57 → M' o = M o) (h51 : ∀ j, j < 420 * 24 → M' 51 j = M 51 j) (h52 : ∀ j, j < 24 → M' 52 j = M 52 j) : RN n M' tk q := by
  have n24 := R.n24
  obtain ⟨⟨hR, hd, ha⟩, hs, hn, hv⟩ := R
  have hr : rmM n M' = rmM n M := by
    funext t
    unfold rmM
    rw [h50 10 (by decide), h53 53 (by decide) (by decide), h53 54 (by decide) (by decide), h53 57 (by decide) (by decide)]
  have hp : plM n M' = plM n M := by
    funext t
    unfold plM
    rw [h53 55 (by decide) (by decide), h53 56 (by decide) (by decide)]
  refine ⟨⟨?_, hd, by rw [hr, hp]; exact ha⟩, by rw [h50 11 (by decide)]; exact hs, hn, fun t h1 h2 => ⟨?_, fun i hi => ?_⟩⟩
  · unfold RunM at *
    rw [hr, hp, h50 0 (by decide), h50 1 (by decide), h50 10 (by decide), h53 53 (by decide) (by decide)]
    exact hR
  · rw [h52 t (by omega)]
    exact (hv t h1 h2).1
  · have A := hn t h1 h2
    show M' 51 (420 * t + i) = _
    rw [h51 _ (by omega)]
    exact (hv t h1 h2).2 i hi
set_option maxHeartbeats 1000000 in
theorem v_text (n0 : Nn) : Ver tX8_text (fdX8, icX8, lcX8, [(138, some 8, c_isLiveL), (127, none, c_isIn), (101, some 8, c_copy), (76, some 8, c_atR), (80, some 8, c_put), (85, some 8, c_fix)]) 1 7 n0 c_text := by
  rintro ⟨n, q, O, a, b⟩ vs M0 ⟨rfl, ia, ib, R, hO⟩ aw run
  have l52 : lnF n0 52 = 37 := rfl
  have l59 : lnF n0 59 = 970 := rfl
  change aw 0 [some (.inr (.inr 50)), some (.inl a), some (.inl b), none, none, none, none] [] M0
  refine run 90 [33] _ _ _ _ ?_
  refine And.intro rfl ⟨(n, 0, q, a), ⟨rfl, ia, R⟩, ?_⟩
  rintro x M0 ⟨⟨rfl, ha⟩ | ⟨rfl, ha⟩, rfl⟩
  rotate_left
  · have e : txF n q O a b = (-2, O) := if_neg ha
    refine And.intro ⟨⟨by omega, by omega⟩, ⟨by omega, by omega⟩⟩ (And.intro (fun c1 => absurd c1 (by omega)) (fun _ => ?_))
    refine Or.inl ?_
    show -2 = (txF n q O a b).1 ∧ RO M0 (txF n q O a b).2 ∧ RN n M0 0 q ∧ FTx M0 M0
    rw [e]
    exact ⟨rfl, hO, R, ⟨fun _ _ _ _ _ => rfl, fun _ _ => rfl⟩⟩
  refine And.intro ⟨⟨by omega, by omega⟩, ⟨by omega, by omega⟩⟩ (And.intro (fun _ => ?_) (fun c2 => absurd c2 (by omega)))
  refine ⟨(b, 2, 36), ⟨rfl, ib, ⟨by omega, by omega⟩, ⟨by omega, by omega⟩⟩, ?_⟩
  rintro x M0 ⟨rfl, rfl⟩
  have e := show txF n q O a b = _ from if_pos ha
  by_cases hb : 2 ≤ b ∧ b ≤ 36
  rotate_left
  · rw [if_neg hb] at e ⊢
    refine And.intro ⟨⟨by omega, by omega⟩, ⟨by omega, by omega⟩⟩ (And.intro (fun c1 => absurd c1 (by omega)) (fun _ => ?_))
    refine Or.inl ?_
    show -3 = (txF n q O a b).1 ∧ RO M0 (txF n q O a b).2 ∧ RN n M0 0 q ∧ FTx M0 M0
    rw [e]
    exact ⟨rfl, hO, R, ⟨fun _ _ _ _ _ => rfl, fun _ _ => rfl⟩⟩
  rw [if_pos hb] at e ⊢
  refine And.intro ⟨⟨by omega, by omega⟩, ⟨by omega, by omega⟩⟩ (And.intro (fun _ => ?_) (fun c2 => absurd c2 (by omega)))
  have b2 := R.n24
  obtain ⟨a, rfl, a_1, a_2⟩ := ha.nat
  have Aa := R.at a_1 a_2
  obtain ⟨b, rfl⟩ : ∃ k : Nat, b = (k : Int) := ⟨b.toNat, by omega⟩
  rw [Int.toNat_natCast, Int.toNat_natCast] at e
  have na := Aa.2.2.2.2.1
  obtain ⟨v, ev⟩ : ∃ v, v = q.2.2.2 a := ⟨_, rfl⟩
  rw [← ev] at e na
  obtain ⟨c, ec⟩ : ∃ c, c = tcB b v := ⟨_, rfl⟩
  rw [← ec] at e
  have c960 : c ≤ 960 := by
    rw [ec]
    refine tcB_le (by omega) 959 v ?_
    have := nd_le.mp na
    rw [nn_pw] at this
    exact this
  have c1 : 1 ≤ c := by rw [ec]; exact tcB_pos
  have bp : 0 < b := by omega
  -- what is kept: all but the digits, row 24, and the scratch
  have rev : ∀ (r k : Nat) (M : Mem) (o5 o6 : Option AV), r + k = c → (∀ i, i < k → M 59 i = chB (v / b ^ (c - 1 - i) % b) ∧ M 59 (c - 1 - i) = chB (v / b ^ i % b)) → (∀ i, k ≤ i → i + k < c → M 59 i = chB (v / b ^ i % b)) → k ≤ c - k → (∀ o, o ≠ 50 → o ≠ 51 → o ≠ 52 → o ≠ 59 → M o = M0 o) → (∀ j, j ≠ 15 → M 50 j = M0 50 j) → RN n M 0 q → aw 150 [some (.inr (.inr 50)), some (.inl (a : Int)), some (.inl (b : Int)), some (.inl (c : Int)), some (.inl (k : Int)), o5, o6] [] M := by
    intro r
    induction r with
    | zero => intro k M o5 o6 hk h1 h2 h3; omega
    | succ r ih =>
      intro k M o5 o6 hk h1 h2 h3 f1 f2 RM
      refine run 60 [150] _ _ _ _ ?_
      by_cases c2 : 2 * k < c - 1
      · refine And.intro ⟨⟨by omega, by omega⟩, ⟨by omega, by omega⟩⟩ (And.intro (fun c1 => absurd c1 (by omega)) (fun _ => ?_))
        refine And.intro rfl (And.intro ⟨rfl, by omega, by omega⟩ (And.intro rfl (And.intro rfl (And.intro ⟨rfl, by omega, by omega⟩ (And.intro ⟨rfl, by omega, by omega⟩ (And.intro rfl (And.intro ⟨rfl, by omega, by omega⟩ (And.intro ?_ trivial))))))))
        have ei : ((c : Int) - 1 - (k : Int)).toNat = c - 1 - k := by omega
        show aw 150 [some (.inr (.inr 50)), some (.inl (a : Int)), some (.inl (b : Int)), some (.inl (c : Int)), some (.inl ((k : Int) + 1)), some (.inl (M 59 k)), o6] [] (up2 (up2 M 59 k (M 59 ((c : Int) - 1 - (k : Int)).toNat)) 59 ((c : Int) - 1 - (k : Int)).toNat (M 59 k))
        rw [ei, show (k : Int) + 1 = ((k + 1 : Nat) : Int) by omega]
        refine ih (k + 1) _ _ _ (by omega) (fun i hi => ?_) (fun i hi1 hi2 => ?_) (by omega) (fun o x1 x2 x3 x4 => by rw [up2_i x4, up2_i x4]; exact f1 o x1 x2 x3 x4) (fun j hj => by rw [up2_i (by decide), up2_i (by decide)]; exact f2 j hj) (RM.fx (fun j hj => by rw [up2_i (by decide), up2_i (by decide)]) (fun o x1 x2 => by rw [up2_i (by omega), up2_i (by omega)]) (fun j _ => by rw [up2_i (by decide), up2_i (by decide)]) (fun j _ => by rw [up2_i (by decide), up2_i (by decide)]))
        · by_cases ci : i = k
          · subst ci
            refine ⟨?_, ?_⟩
            · rw [up2_k (by omega), up2_s]
              exact h2 (c - 1 - i) (by omega) (by omega)
            · rw [up2_s]
              exact h2 i (Nat.le_refl _) (by omega)
          · rw [up2_k (by omega), up2_k (by omega), up2_k (by omega), up2_k (by omega)]
            exact h1 i (by omega)
        · rw [up2_k (by omega), up2_k (by omega)]
          exact h2 i (by omega) (by omega)
      · refine And.intro ⟨⟨by omega, by omega⟩, ⟨by omega, by omega⟩⟩ (And.intro (fun _ => ?_) (fun c2 => absurd c2 (by omega)))
        refine And.intro rfl (Or.inl ?_)
        show (c : Int) = (txF n q O a b).1 ∧ RO (up2 M 50 15 c) (txF n q O a b).2 ∧ RN n (up2 M 50 15 c) 0 q ∧ FTx M0 (up2 M 50 15 c)
        rw [e]
        refine ⟨rfl, ⟨up2_s, by show c ≤ 970; omega, fun i hi => ?_⟩, RM.fx (fun j hj => up2_k hj) (fun o x1 x2 => up2_i (by omega)) (fun j _ => by rw [up2_i (by decide)]) (fun j _ => by rw [up2_i (by decide)]), ⟨fun o x1 x2 x3 x4 => by rw [up2_i x1]; exact f1 o x1 x2 x3 x4, fun j hj => by rw [up2_k hj]; exact f2 j hj⟩⟩
        change i < c at hi
        show up2 M 50 15 c 59 i = chB (v / b ^ (c - 1 - i) % b)
        rw [up2_i (by decide)]
        by_cases c3 : i < k
        · exact (h1 i c3).1
        · by_cases c4 : c - 1 - i < k
          · have := (h1 (c - 1 - i) c4).2
            rw [show c - 1 - (c - 1 - i) = i by omega] at this
            exact this
          · rw [h2 i (by omega) (by omega), show c - 1 - i = i by omega]
  have outer : ∀ (r m : Nat) (M : Mem) (o4 o5 o6 : Option AV), m + r = c → tcB b (v / b ^ m) = r → (∀ i, i < m → M 59 i = chB (v / b ^ i % b)) → MH M 24 (v / b ^ m) → (∀ o, o ≠ 50 → o ≠ 51 → o ≠ 52 → o ≠ 59 → M o = M0 o) → (∀ j, j ≠ 15 → M 50 j = M0 50 j) → RN n M 0 q → aw 33 [some (.inr (.inr 50)), some (.inl (a : Int)), some (.inl (b : Int)), some (.inl (m : Int)), o4, o5, o6] [] M := by
    intro r
    induction r with
    | zero =>
      intro m M o4 o5 o6 hm ht
      have := tcB_pos (b := b) (v := v / b ^ m)
      omega
    | succ r ih =>
      intro m M o4 o5 o6 hm ht h1 hA f1 f2 RM
      obtain ⟨V, eV⟩ : ∃ V, V = v / b ^ m := ⟨_, rfl⟩
      have eV2 : v / b ^ (m + 1) = V / b := by rw [eV, Nat.pow_succ, Nat.div_div_eq_div_mul]
      have nV : nd V ≤ 64 := by rw [eV]; exact Nat.le_trans (nd_mono (Nat.div_le_self _ _)) na
      rw [← eV] at hA ht
      have hlt : V / b < 32768 ^ nd V := Nat.lt_of_le_of_lt (Nat.div_le_self _ _) (nd_lt V)
      have nq : nd (V / b) ≤ nd V := nd_le.mpr hlt
      have inner : ∀ (k : Nat) (M' : Mem) (o6 : Option AV), k ≤ nd V → (∀ j, k ≤ j → j < nd V → M' 51 (420 * 24 + j) = (dg (V / b) j : Int)) → (∀ j, j < k → M' 51 (420 * 24 + j) = (dg V j : Int)) → M' 52 24 = (nd V : Int) → FrM M M' 24 → aw 47 [some (.inr (.inr 50)), some (.inl (a : Int)), some (.inl (b : Int)), some (.inl (m : Int)), some (.inl ((V / 32768 ^ k % b : Nat) : Int)), some (.inl ((k : Int) - 1)), o6] [] M' := by
        intro k
        induction k with
        | zero =>
          intro M' o6 hk h3 h4 h5 hF
          have e0 : V / 32768 ^ 0 % b = V % b := by rw [Nat.pow_zero, Nat.div_one]
          rw [e0]
          have hr := Nat.mod_lt V bp
          have h6 : ∀ j, j < nd V → M' 51 (420 * 24 + j) = (dg (V / b) j : Int) := fun j hj => h3 j (Nat.zero_le _) hj
          have fin : ∀ (M3 : Mem) (o5 : Option AV), (∀ i, i < m + 1 → M3 59 i = chB (v / b ^ i % b)) → MH M3 24 (V / b) → (∀ o, o ≠ 50 → o ≠ 51 → o ≠ 52 → o ≠ 59 → M3 o = M0 o) → (∀ j, j ≠ 15 → M3 50 j = M0 50 j) → RN n M3 0 q → aw 134 [some (.inr (.inr 50)), some (.inl (a : Int)), some (.inl (b : Int)), some (.inl (m : Int)), some (.inl ((V % b : Nat) : Int)), o5, o6] [] M3 := by
            intro M3 o5 k1 k2 k3 k4 k5
            have hz := nd_z (v := V / b)
            refine run 60 [33, 150] _ _ _ _ ?_
            refine And.intro rfl (And.intro ⟨rfl, by omega, by omega⟩ ?_)
            conv => whnf
            rw [show ((24 : Int)).toNat = 24 from rfl, k2.1]
            by_cases hv0 : V / b = 0
            · have n0 := hz.mpr hv0
              refine And.intro ⟨⟨by omega, by omega⟩, ⟨by omega, by omega⟩⟩ (And.intro (fun c1 => absurd c1 (by omega)) (fun _ => ?_))
              rw [tcB_1 hv0] at ht
              refine And.intro ?_ trivial
              rw [show (m : Int) + 1 = (c : Int) by omega]
              exact rev c 0 M3 _ _ (by omega) (fun i hi => absurd hi (Nat.not_lt_zero i)) (fun i _ hi => k1 i (by omega)) (by omega) k3 k4 k5
            · have n0 : nd (V / b) ≠ 0 := fun z => hv0 (hz.mp z)
              refine And.intro ⟨⟨by omega, by omega⟩, ⟨by omega, by omega⟩⟩ (And.intro (fun _ => ?_) (fun c2 => absurd c2 (by omega)))
              rw [tcB_s (by omega) hv0] at ht
              refine And.intro ?_ trivial
              rw [show (m : Int) + 1 = ((m + 1 : Nat) : Int) by omega]
              refine ih (m + 1) M3 _ _ _ (by omega) (by rw [eV2]; omega) k1 (by rw [eV2]; exact k2) k3 k4 k5
          refine run 60 [134] _ _ _ _ ?_
          refine And.intro ⟨⟨by omega, by omega⟩, ⟨by omega, by omega⟩⟩ (And.intro (fun _ => ?_) (fun c2 => absurd c2 (by omega)))
          refine And.intro rfl (And.intro ⟨rfl, by omega, by omega⟩ ?_)
          conv => whnf
          rw [show ((24 : Int)).toNat = 24 from rfl, h5]
          refine And.intro rfl ⟨(24, nd V, V / b), ⟨rfl, by omega, by omega, hlt, h6⟩, ?_⟩
          rintro M3 rfl
          have hA3 := MH_fix h6 hlt
          have hF3 := hF.tr (FrM.len (x := (nd (V / b) : Int)))
          generalize up2 M' 52 24 (nd (V / b) : Int) = M3 at *
          have R3 := RM.fm hF3 (by omega)
          have g1 : ∀ x : Int, x = chB (V % b) → ∀ i, i < m + 1 → up2 M3 59 m x 59 i = chB (v / b ^ i % b) := by
            intro x ex i hi
            by_cases ci : i = m
            · rw [ci, up2_s, ex, eV]
            · rw [up2_k ci, hF3.1 59 (by decide) (by decide)]
              exact h1 i (by omega)
          have g2 : ∀ x : Int, MH (up2 M3 59 m x) 24 (V / b) := fun x => hA3.ft (up2_i (by decide)) (up2_i (by decide))
          have g3 : ∀ x : Int, ∀ o, o ≠ 50 → o ≠ 51 → o ≠ 52 → o ≠ 59 → up2 M3 59 m x o = M0 o := fun x o x1 x2 x3 x4 => by rw [up2_i x4, hF3.1 o x2 x3]; exact f1 o x1 x2 x3 x4
          have g4 : ∀ x : Int, ∀ j, j ≠ 15 → up2 M3 59 m x 50 j = M0 50 j := fun x j hj => by rw [up2_i (by decide), hF3.1 50 (by decide) (by decide)]; exact f2 j hj
          have g5 : ∀ x : Int, RN n (up2 M3 59 m x) 0 q := fun x => R3.fx (fun j _ => by rw [up2_i (by decide)]) (fun o x1 x2 => up2_i (by omega)) (fun j _ => by rw [up2_i (by decide)]) (fun j _ => by rw [up2_i (by decide)])
          refine And.intro rfl ?_
          refine And.intro ⟨⟨by omega, by omega⟩, ⟨by omega, by omega⟩⟩ (And.intro (fun c1 => ?_) (fun c2 => ?_))
          · refine And.intro ⟨rfl, by omega, by omega⟩ (And.intro ?_ trivial)
            exact fin _ _ (g1 _ (by unfold chB; rw [if_neg (by omega)])) (g2 _) (g3 _) (g4 _) (g5 _)
          · refine And.intro ⟨rfl, by omega, by omega⟩ (And.intro ?_ trivial)
            exact fin _ _ (g1 _ (by unfold chB; rw [if_pos (by omega)])) (g2 _) (g3 _) (g4 _) (g5 _)
        | succ k ihk =>
          intro M' o6 hk h3 h4 h5 hF
          have hr := Nat.mod_lt (V / 32768 ^ (k + 1)) bp
          have hg := dg_lt V k
          obtain ⟨d1, d2⟩ := dv_dg (v := V) (k := k) bp
          generalize V / 32768 ^ (k + 1) % b = s at *
          rw [show (((k + 1 : Nat) : Int) - 1) = (k : Int) by omega]
          refine run 60 [47] _ _ _ _ ?_
          refine And.intro ⟨⟨by omega, by omega⟩, ⟨by omega, by omega⟩⟩ (And.intro (fun c1 => absurd c1 (by omega)) (fun _ => ?_))
          refine And.intro rfl ⟨(24, (k : Int), nd V), ⟨rfl, by omega, ⟨by omega, by omega⟩, h5, by omega⟩, ?_⟩
          rintro x M' ⟨rfl, rfl⟩
          rw [if_neg (by omega), Int.toNat_natCast, h4 k (by omega)]
          conv => whnf
          rw [show (s : Int) * 32768 + (dg V k : Int) = ((s * 32768 + dg V k : Nat) : Int) by omega]
          refine And.intro ⟨by omega, by omega, ⟨by omega, by omega⟩, ⟨by omega, by omega⟩⟩ (And.intro rfl ⟨(24, k, (dg (V / b) k : Int)), ⟨vs4' (by rw [← d1, Int.natCast_ediv]), by omega⟩, ?_⟩)
          rintro M3 rfl
          refine And.intro ⟨by omega, by omega, ⟨by omega, by omega⟩, ⟨by omega, by omega⟩⟩ (And.intro ?_ trivial)
          rw [← Int.natCast_emod, d2]
          refine ihk _ _ (by omega) (fun j hj1 hj2 => ?_) (fun j hj => ?_) ?_ ?_
          · by_cases cj : j = k
            · rw [cj, up2_s]
            · rw [up2_k (by omega)]
              exact h3 j (by omega) hj2
          · rw [up2_k (by omega)]
            exact h4 j (by omega)
          · rw [up2_i (by decide)]
            exact h5
          · exact hF.tr (FrM.put (by omega))
      refine run 60 [47] _ _ _ _ ?_
      refine And.intro rfl (And.intro ⟨rfl, by omega, by omega⟩ ?_)
      refine And.intro ?_ trivial
      have := inner (nd V) M o6 (Nat.le_refl _) (fun j hj1 hj2 => by omega) (fun j hj => hA.2 j hj) hA.1 (FrM.rf _ _)
      rw [Nat.div_eq_of_lt (nd_lt V), Nat.zero_mod] at this
      show aw 47 [some (.inr (.inr 50)), some (.inl (a : Int)), some (.inl (b : Int)), some (.inl (m : Int)), some (.inl 0), some (.inl (M 52 24 - 1)), o6] [] M
      rw [hA.1]
      exact this
  refine And.intro rfl ⟨(a, 24, v), ⟨rfl, by omega, by omega, by rw [ev]; exact Aa.2.2.2.1, by omega⟩, ?_⟩
  rintro M1 ⟨hA1, hF1⟩
  refine And.intro ?_ trivial
  have e0 : v / b ^ 0 = v := by rw [Nat.pow_zero, Nat.div_one]
  exact outer c 0 M1 _ _ _ (by omega) (by rw [e0]; exact ec.symm) (fun i hi => absurd hi (Nat.not_lt_zero i)) (by rw [e0]; exact hA1) (fun o _ x2 x3 _ => hF1.1 o x2 x3) (fun j _ => by rw [hF1.1 50 (by decide) (by decide)]) (R.fm hF1 (by omega))
theorem imX8_text {l : Launch} {Z : ZT} (hZ : ZOk Z) : Impl l Z yX8_text cX8_text 7 (some .int) 3 c_text := mkImpl (rt := 1) (CL := [(138, some 8, c_isLiveL), (127, none, c_isIn), (101, some 8, c_copy), (76, some 8, c_atR), (80, some 8, c_put), (85, some 8, c_fix)]) hZ.1 hZ.2.1 (by decide +kernel) kX8_text fwX8 iwX8 lwX8 trivial (Nat.le_of_ble_eq_true rfl) (List.forall_mem_cons.mpr ⟨gX8_138_L hZ (by decide), List.forall_mem_cons.mpr ⟨gX8_127 hZ (by decide), List.forall_mem_cons.mpr ⟨gX8_101 hZ (by decide), List.forall_mem_cons.mpr ⟨gX8_76_R hZ (by decide), List.forall_mem_cons.mpr ⟨gX8_80 hZ (by decide), List.forall_mem_cons.mpr ⟨gX8_85 hZ (by decide), fun q h => absurd h List.not_mem_nil⟩⟩⟩⟩⟩⟩) ((v_text _))
