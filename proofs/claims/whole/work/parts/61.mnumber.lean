/-! ===== the reference: number ===== -/
/-- how many of the r bytes from i on are digits, at once, and the place behind them -/
def gdF (tp : Nat → Int) (b : Int) (r i : Nat) : Nat := match r with
  | 0 => i
  | r + 1 => if dgC (tp i) < b then gdF tp b r (i + 1) else i
/-- the number that the first k digits spell -/
def hvF (tp : Nat → Int) (b k : Nat) : Nat := match k with
  | 0 => 0
  | k + 1 => hvF tp b k * b + (dgC (tp k)).toNat
def cyH (v b d k : Nat) : Nat := ((v % 32768 ^ k) * b + d) / 32768 ^ k
theorem cyH_0 (v b d : Nat) : cyH v b d 0 = d := by simp [cyH, Nat.mod_one]
theorem cyH_t (v b d k : Nat) : dg v k * b + cyH v b d k = ((v % 32768 ^ (k + 1)) * b + d) / 32768 ^ k := by
  unfold cyH
  rw [md_s]
  generalize dg v k = x
  generalize v % 32768 ^ k = y
  have hp := nn_pos k
  generalize 32768 ^ k = p at *
  rw [show (y + p * x) * b + d = (y * b + d) + p * (x * b) by grind, Nat.add_mul_div_left _ _ hp]
  omega
theorem cyH_d (v b d k : Nat) : (dg v k * b + cyH v b d k) % 32768 = dg (v * b + d) k := by
  rw [cyH_t]
  show dg ((v % 32768 ^ (k + 1)) * b + d) k = _
  rw [← dg_md (Nat.lt_succ_self k), ← dg_md (a := v * b + d) (Nat.lt_succ_self k)]
  congr 1
  rw [Nat.add_mod, Nat.mul_mod, Nat.mod_mod, ← Nat.mul_mod, ← Nat.add_mod]
theorem cyH_s (v b d k : Nat) : (dg v k * b + cyH v b d k) / 32768 = cyH v b d (k + 1) := by
  rw [cyH_t, Nat.div_div_eq_div_mul, ← nn_succ]
  rfl
theorem cyH_lt {v b d k : Nat} (hd : d < b) : cyH v b d k < b := by
  unfold cyH
  rw [Nat.div_lt_iff_lt_mul (nn_pos k)]
  have h := Nat.mod_lt v (nn_pos k)
  generalize v % 32768 ^ k = y at *
  generalize 32768 ^ k = p at *
  have := Nat.mul_le_mul_right b (Nat.succ_le_of_lt h)
  rw [Nat.succ_mul, Nat.mul_comm p] at this
  omega
theorem mulp_lt {v b d m : Nat} (hv : nd v ≤ m) (hb : b ≤ 32768) (hd : d < b) : v * b + d < 32768 ^ (m + 1) := by
  have h := nd_le.mp hv
  have := Nat.mul_le_mul_right b (Nat.succ_le_of_lt h)
  rw [Nat.succ_mul] at this
  have h2 : 32768 ^ m * b ≤ 32768 ^ m * 32768 := Nat.mul_le_mul_left _ hb
  rw [nn_succ]
  omega
theorem dgC_nn (c : Int) : 0 ≤ dgC c := by
  unfold dgC
  split
  · omega
  · split <;> omega
theorem hvF_lt {tp : Nat → Int} {b : Nat} (hb : b ≤ 36) : ∀ {k : Nat}, (∀ i, i < k → dgC (tp i) < (b : Int)) → hvF tp b k < 2 ^ (6 * k) := by
  intro k
  induction k with
  | zero => intro _; exact Nat.one_pos
  | succ k ih =>
    intro h
    have h1 := ih (fun i hi => h i (by omega))
    have h2 := h k (by omega)
    have h3 := dgC_nn (tp k)
    rw [hvF, show 6 * (k + 1) = 6 * k + 6 by omega, Nat.pow_add]
    have h4 := Nat.mul_le_mul_right b (Nat.succ_le_of_lt h1)
    have h5 : 2 ^ (6 * k) * b ≤ 2 ^ (6 * k) * 36 := Nat.mul_le_mul_left _ hb
    rw [Nat.succ_mul] at h4
    omega
theorem gdF_ge (tp : Nat → Int) (b : Int) (r : Nat) : ∀ i, i ≤ gdF tp b r i ∧ gdF tp b r i ≤ i + r := by
  induction r with
  | zero => intro i; exact ⟨Nat.le_refl _, Nat.le_refl _⟩
  | succ r ih =>
    intro i
    rw [gdF]
    have := ih (i + 1)
    split <;> omega
theorem gdF_lt (tp : Nat → Int) (b : Int) (r : Nat) : ∀ i j, i ≤ j → j < gdF tp b r i → dgC (tp j) < b := by
  induction r with
  | zero => intro i j h1 h2; change j < i at h2; omega
  | succ r ih =>
    intro i j h1 h2
    rw [gdF] at h2
    split at h2
    · by_cases e : j = i
      · rw [e]; assumption
      · exact ih (i + 1) j (by omega) h2
    · omega
def nmF (n : Nn) (q : RS) (T : TS) (d b : Int) : Int × RS × Int × TS :=
  if Lv n q d then (if 2 ≤ b ∧ b ≤ 36 then (if gdF T.2 b T.1 0 < T.1 ∨ T.1 = 0 then (-1, q, (gdF T.2 b T.1 0 : Int), (0, T.2))
    else if 64 < nd (hvF T.2 b.toNat T.1) then (-8, q, -1, (0, T.2)) else ((cmR n 0 q d.toNat (hvF T.2 b.toNat T.1)).1, (cmR n 0 q d.toNat (hvF T.2 b.toNat T.1)).2, -1, (0, T.2)))
    else (-3, q, -1, T)) else (-2, q, -1, T)
def FNm (M M' : Mem) : Prop := (∀ o, o < 50 ∨ 57 < o → M' o = M o) ∧ ∀ j, j ≠ 10 → j ≠ 11 → j ≠ 14 → j ≠ 16 → M' 50 j = M 50 j
def c_number : Call := ⟨Nn × RS × TS × Int × Int, 3, (fun (n, q, T, d, b) vs M => vs = [.inr (.inr 50), .inl d, .inl b] ∧ inR d ∧ inR b ∧ RN n M 0 q ∧ RT M T), .inr (fun (n, q, T, d, b) _ M x M' => x = (nmF n q T d b).1 ∧ RN n M' 0 (nmF n q T d b).2.1 ∧ M' 50 16 = (nmF n q T d b).2.2.1 ∧ RT M' (nmF n q T d b).2.2.2 ∧ FNm M M')⟩
theorem RN.f5 {n : Nn} {M : Mem} {tk : Nat} {q : RS} {j : Nat} {x : Int} (R : RN n M tk q) (hj : j ≠ 0 ∧ j ≠ 1 ∧ j ≠ 10 ∧ j ≠ 11) : RN n (up2 M 50 j x) tk q := by
  obtain ⟨⟨hR, hd, ha⟩, hs, hn, hv⟩ := R
  have hr : rmM n (up2 M 50 j x) = rmM n M := by
    funext t
    unfold rmM
    rw [up2_k (by omega), up2_i (by decide), up2_i (by decide), up2_i (by decide)]
  have hp : plM n (up2 M 50 j x) = plM n M := by
    funext t
    unfold plM
    rw [up2_i (by decide), up2_i (by decide)]
  refine ⟨⟨?_, hd, by rw [hr, hp]; exact ha⟩, by rw [up2_k (by omega)]; exact hs, hn, fun t h1 h2 => (hv t h1 h2).ft (up2_i (by decide)) (up2_i (by decide))⟩
  unfold RunM at *
  rw [hr, hp, up2_k (by omega), up2_k (by omega), up2_k (by omega), up2_i (by decide)]
  exact hR
theorem vs4' {s k x y : Int} (e : x = y) : ([.inr (.inr 50), .inl s, .inl k, .inl x] : List AV) = [.inr (.inr 50), .inl s, .inl k, .inl y] := by rw [e]
set_option maxHeartbeats 1000000 in
theorem v_number (n0 : Nn) : Ver tX8_number (fdX8, icX8, lcX8, [(138, some 8, c_isLiveL), (127, none, c_isIn), (168, none, c_digit), (76, some 8, c_atR), (80, some 8, c_put), (85, some 8, c_fix), (153, some 8, c_comes)]) 1 10 n0 c_number := by
  rintro ⟨n, q, T, d, b⟩ vs M0 ⟨rfl, id, ib, R0, hc0, hm, hT⟩ aw run
  have l52 : lnF n0 52 = 37 := rfl
  have l58 : lnF n0 58 = 1000 := rfl
  change aw 0 [some (.inr (.inr 50)), some (.inl d), some (.inl b), none, none, none, none, none, none, none] [] M0
  refine run 90 [42] _ _ _ _ ?_
  refine And.intro rfl ?_
  have R := R0.f5 (j := 16) (x := -1) (by decide)
  have f1 : FNm M0 (up2 M0 50 16 (-1)) := ⟨fun o a => up2_i (by omega), fun j _ _ _ a => up2_k a⟩
  have hc : up2 M0 50 16 (-1) 50 14 = (T.1 : Int) := by rw [up2_k (by decide)]; exact hc0
  have h16 : up2 M0 50 16 (-1) 50 16 = -1 := up2_s
  have hT1 : ∀ i, i < T.1 → up2 M0 50 16 (-1) 58 i = T.2 i ∧ 0 ≤ T.2 i ∧ T.2 i < 256 := fun i hi => by rw [up2_i (by decide)]; exact hT i hi
  generalize up2 M0 50 16 (-1) = M1 at *
  refine And.intro rfl ⟨(n, 0, q, d), ⟨rfl, id, R⟩, ?_⟩
  rintro x M1 ⟨⟨rfl, hd⟩ | ⟨rfl, hd⟩, rfl⟩
  rotate_left
  · have e : nmF n q T d b = (-2, q, -1, T) := if_neg hd
    refine And.intro ⟨⟨by omega, by omega⟩, ⟨by omega, by omega⟩⟩ (And.intro (fun c1 => absurd c1 (by omega)) (fun _ => ?_))
    refine Or.inl ?_
    show -2 = (nmF n q T d b).1 ∧ RN n M1 0 (nmF n q T d b).2.1 ∧ M1 50 16 = (nmF n q T d b).2.2.1 ∧ RT M1 (nmF n q T d b).2.2.2 ∧ FNm M0 M1
    rw [e]
    exact ⟨rfl, R, h16, ⟨hc, hm, hT1⟩, f1⟩
  refine And.intro ⟨⟨by omega, by omega⟩, ⟨by omega, by omega⟩⟩ (And.intro (fun _ => ?_) (fun c2 => absurd c2 (by omega)))
  refine ⟨(b, 2, 36), ⟨rfl, ib, ⟨by omega, by omega⟩, ⟨by omega, by omega⟩⟩, ?_⟩
  rintro x M1 ⟨rfl, rfl⟩
  have e := show nmF n q T d b = _ from if_pos hd
  by_cases hb : 2 ≤ b ∧ b ≤ 36
  rotate_left
  · rw [if_neg hb] at e ⊢
    refine And.intro ⟨⟨by omega, by omega⟩, ⟨by omega, by omega⟩⟩ (And.intro (fun c1 => absurd c1 (by omega)) (fun _ => ?_))
    refine Or.inl ?_
    show -3 = (nmF n q T d b).1 ∧ RN n M1 0 (nmF n q T d b).2.1 ∧ M1 50 16 = (nmF n q T d b).2.2.1 ∧ RT M1 (nmF n q T d b).2.2.2 ∧ FNm M0 M1
    rw [e]
    exact ⟨rfl, R, h16, ⟨hc, hm, hT1⟩, f1⟩
  rw [if_pos hb] at e ⊢
  refine And.intro ⟨⟨by omega, by omega⟩, ⟨by omega, by omega⟩⟩ (And.intro (fun _ => ?_) (fun c2 => absurd c2 (by omega)))
  refine And.intro rfl (And.intro rfl ?_)
  have b2 := R.n24
  have h14 : up2 M1 50 14 0 50 14 = 0 := up2_s
  have R1 := R.f5 (j := 14) (x := 0) (by decide)
  have f2 : FNm M0 (up2 M1 50 14 0) := ⟨fun o a => by rw [up2_i (by omega)]; exact f1.1 o a, fun j x1 x2 x3 x4 => by rw [up2_k x3]; exact f1.2 j x1 x2 x3 x4⟩
  have g16 : up2 M1 50 14 0 50 16 = -1 := by rw [up2_k (by decide)]; exact h16
  have hT2 : ∀ i, i < T.1 → up2 M1 50 14 0 58 i = T.2 i := fun i hi => by rw [up2_i (by decide)]; exact (hT1 i hi).1
  conv => whnf
  rw [hc]
  generalize up2 M1 50 14 0 = M2 at *
  obtain ⟨d, rfl, d_1, d_2⟩ := hd.nat
  obtain ⟨b, rfl⟩ : ∃ k : Nat, b = (k : Int) := ⟨b.toNat, by omega⟩
  rw [Int.toNat_natCast, Int.toNat_natCast] at e
  obtain ⟨N, eN⟩ : ∃ N, N = T.1 := ⟨_, rfl⟩
  rw [← eN] at hm hT1 hT2 hT e hc hc0 ⊢
  obtain ⟨g, eg⟩ : ∃ g, g = gdF T.2 (b : Int) N 0 := ⟨_, rfl⟩
  rw [← eg] at e
  have gl := gdF_lt T.2 (b : Int) N 0
  rw [← eg] at gl
  have badF : g < N ∨ N = 0 → aw 78 [some (.inr (.inr 50)), some (.inl (d : Int)), some (.inl (b : Int)), some (.inl (N : Int)), some (.inl (g : Int)), none, none, none, none, none] [] M2 := by
    intro hg
    rw [if_pos hg] at e
    refine run 60 [] _ _ _ _ ?_
    refine And.intro rfl (Or.inl ?_)
    show -1 = (nmF n q T d b).1 ∧ RN n (up2 M2 50 16 g) 0 (nmF n q T d b).2.1 ∧ up2 M2 50 16 g 50 16 = (nmF n q T d b).2.2.1 ∧ RT (up2 M2 50 16 g) (nmF n q T d b).2.2.2 ∧ FNm M0 (up2 M2 50 16 g)
    rw [e]
    refine ⟨rfl, R1.f5 (by decide), up2_s, ⟨by rw [up2_k (by decide)]; exact h14, Nat.zero_le 1000, fun i hi => absurd hi (Nat.not_lt_zero i)⟩, ⟨fun o a => by rw [up2_i (by omega)]; exact f2.1 o a, fun j x1 x2 x3 x4 => by rw [up2_k x4]; exact f2.2 j x1 x2 x3 x4⟩⟩
  have go : ¬ (g < N ∨ N = 0) → g = N → aw 86 [some (.inr (.inr 50)), some (.inl (d : Int)), some (.inl (b : Int)), some (.inl (N : Int)), some (.inl (g : Int)), none, none, none, none, none] [] M2 := by
    intro hg hgN
    rw [if_neg hg] at e
    have hdg : ∀ i, i < N → dgC (T.2 i) < (b : Int) := fun i hi => gl i (Nat.zero_le _) (by omega)
    have RTf : ∀ M : Mem, FrL M2 M SCL → RT M (0, T.2) := fun M hF => ⟨by rw [hF.1 50 (by decide) (by decide)]; exact h14, Nat.zero_le 1000, fun i hi => absurd hi (Nat.not_lt_zero i)⟩
    have hvl : ∀ i, i ≤ N → nd (hvF T.2 b i) ≤ 400 := by
      intro i hi
      have := hvF_lt (tp := T.2) (b := b) (k := i) (by omega) (fun j hj => hdg j (by omega))
      refine nd_le.mpr (Nat.lt_of_lt_of_le this ?_)
      rw [nn_pw]
      exact Nat.pow_le_pow_right (by decide) (by omega)
    have outer : ∀ (r i : Nat) (M : Mem) (o6 o7 o8 o9 : Option AV), i + r = N → MH M 24 (hvF T.2 b i) → FrL M2 M SCL → aw 97 [some (.inr (.inr 50)), some (.inl (d : Int)), some (.inl (b : Int)), some (.inl (N : Int)), some (.inl (g : Int)), some (.inl (i : Int)), o6, o7, o8, o9] [] M := by
      intro r
      induction r with
      | zero =>
        intro i M o6 o7 o8 o9 hi hA hF
        obtain rfl : i = N := by omega
        have nv := hvl i (Nat.le_refl _)
        have RM := R1.fl hF SCL_ge
        refine run 60 [97] _ _ _ _ ?_
        refine And.intro ⟨⟨by omega, by omega⟩, ⟨by omega, by omega⟩⟩ (And.intro (fun _ => ?_) (fun c2 => absurd c2 (by omega)))
        refine And.intro rfl (And.intro ⟨rfl, by omega, by omega⟩ ?_)
        conv => whnf
        rw [show ((24 : Int)).toNat = 24 from rfl, hA.1]
        refine And.intro ⟨⟨by omega, by omega⟩, ⟨by omega, by omega⟩⟩ (And.intro (fun c1 => ?_) (fun c2 => ?_))
        · rw [if_neg (by omega)] at e
          refine And.intro rfl ⟨(n, 0, q.1, q.2.1, 24, d, hvF T.2 b i), ⟨rfl, RM.1, by omega, d_1, (RM.at d_1 d_2).1, by omega, by omega, hA, by omega⟩, ?_⟩
          rintro x M3 hp
          have hFC : FrC M M3 d := hp.2.2.2.1
          obtain ⟨c1, c2, c3⟩ := RM.com d_1 d_2 (by omega) hp
          refine Or.inl ?_
          show x = (nmF n q T d b).1 ∧ RN n M3 0 (nmF n q T d b).2.1 ∧ M3 50 16 = (nmF n q T d b).2.2.1 ∧ RT M3 (nmF n q T d b).2.2.2 ∧ FNm M0 M3
          rw [e]
          have h50 := hF.1 50 (by decide) (by decide)
          refine ⟨c1, c2, ?_, ⟨?_, Nat.zero_le 1000, fun i hi => absurd hi (Nat.not_lt_zero i)⟩, ⟨fun o a => ?_, fun j x1 x2 x3 x4 => ?_⟩⟩
          · rw [c3.2 16 (by decide) (by decide), h50]
            exact g16
          · rw [c3.2 14 (by decide) (by decide), h50]
            exact h14
          · rw [c3.1 o a, hF.1 o (by omega) (by omega)]
            exact f2.1 o a
          · rw [c3.2 j x1 x2, h50]
            exact f2.2 j x1 x2 x3 x4
        · rw [if_pos (by omega)] at e
          refine Or.inl ?_
          show -8 = (nmF n q T d b).1 ∧ RN n M 0 (nmF n q T d b).2.1 ∧ M 50 16 = (nmF n q T d b).2.2.1 ∧ RT M (nmF n q T d b).2.2.2 ∧ FNm M0 M
          rw [e]
          have h50 := hF.1 50 (by decide) (by decide)
          exact ⟨rfl, RM, by rw [h50]; exact g16, RTf M hF, ⟨fun o a => by rw [hF.1 o (by omega) (by omega)]; exact f2.1 o a, fun j x1 x2 x3 x4 => by rw [h50]; exact f2.2 j x1 x2 x3 x4⟩⟩
      | succ r ih =>
        intro i M o6 o7 o8 o9 hi hA hF
        obtain ⟨v, ev⟩ : ∃ v, v = hvF T.2 b i := ⟨_, rfl⟩
        have nv := hvl i (by omega)
        rw [← ev] at hA nv
        obtain ⟨D, eD⟩ : ∃ D : Nat, dgC (T.2 i) = (D : Int) := ⟨(dgC (T.2 i)).toNat, by have := dgC_nn (T.2 i); omega⟩
        have hD := hdg i (by omega)
        have eV : hvF T.2 b (i + 1) = v * b + D := by
          rw [hvF, ← ev, eD, Int.toNat_natCast]
        have inner : ∀ (r k : Nat) (M' : Mem) (o9 : Option AV), k + r = nd v → (∀ j, j < k → M' 51 (420 * 24 + j) = (dg (v * b + D) j : Int)) → (∀ j, k ≤ j → j < nd v → M' 51 (420 * 24 + j) = (dg v j : Int)) → M' 52 24 = (nd v : Int) → FrL M2 M' SCL → aw 127 [some (.inr (.inr 50)), some (.inl (d : Int)), some (.inl (b : Int)), some (.inl (N : Int)), some (.inl (g : Int)), some (.inl (i : Int)), some (.inl (cyH v b D k : Int)), some (.inl (nd v : Int)), some (.inl (k : Int)), o9] [] M' := by
          intro r
          induction r with
          | zero =>
            intro k M' o9 hk h1 h2 h3 hF'
            obtain rfl : k = nd v := by omega
            have hcy := cyH_lt (v := v) (b := b) (d := D) (k := nd v) (by omega)
            have hlt : v * b + D < 32768 ^ (nd v + 1) := mulp_lt (Nat.le_refl _) (by omega) (by omega)
            have ecy : cyH v b D (nd v) = dg (v * b + D) (nd v) := by
              have := cyH_d v b D (nd v)
              rw [dg_z (v := v) (Nat.le_refl _), Nat.zero_mul, Nat.zero_add, Nat.mod_eq_of_lt (by omega)] at this
              exact this
            refine run 60 [97, 127] _ _ _ _ ?_
            refine And.intro ⟨⟨by omega, by omega⟩, ⟨by omega, by omega⟩⟩ (And.intro (fun _ => ?_) (fun c2 => absurd c2 (by omega)))
            refine And.intro rfl ⟨(24, nd v, (cyH v b D (nd v) : Int)), ⟨rfl, by omega⟩, ?_⟩
            rintro M3 rfl
            have hD3 : ∀ j, j < nd v + 1 → up2 M' 51 (420 * 24 + nd v) (cyH v b D (nd v) : Int) 51 (420 * 24 + j) = (dg (v * b + D) j : Int) := by
              intro j hj
              by_cases c : j = nd v
              · rw [c, up2_s, ecy]
              · rw [up2_k (by omega)]
                exact h1 j (by omega)
            refine And.intro rfl ⟨(24, nd v + 1, v * b + D), ⟨rfl, by omega, by omega, hlt, hD3⟩, ?_⟩
            rintro M4 rfl
            refine And.intro ?_ trivial
            have hF4 : FrL M2 _ SCL := (hF'.tr ((FrM.put (d := 24) (i := nd v) (x := (cyH v b D (nd v) : Int)) (by omega)).L (by decide))).tr ((FrM.len (d := 24) (x := (nd (v * b + D) : Int))).L (by decide))
            refine ih (i + 1) _ _ _ _ _ (by omega) ?_ hF4
            rw [eV]
            exact MH_fix hD3 hlt
          | succ r ihk =>
            intro k M' o9 hk h1 h2 h3 hF'
            have hcy := cyH_lt (v := v) (b := b) (d := D) (k := k) (by omega)
            have hg := dg_lt v k
            have hmul : dg v k * b ≤ 32767 * 36 := Nat.mul_le_mul (by omega) (by omega)
            have e1 := cyH_d v b D k
            have e2 := cyH_s v b D k
            refine run 60 [127] _ _ _ _ ?_
            refine And.intro ⟨⟨by omega, by omega⟩, ⟨by omega, by omega⟩⟩ (And.intro (fun c1 => absurd c1 (by omega)) (fun _ => ?_))
            refine And.intro rfl ⟨(24, (k : Int), nd v), ⟨rfl, by omega, ⟨by omega, by omega⟩, h3, by omega⟩, ?_⟩
            rintro x M' ⟨rfl, rfl⟩
            rw [if_neg (by omega), Int.toNat_natCast, h2 k (by omega) (by omega)]
            have e3 : (dg v k : Int) * (b : Int) + (cyH v b D k : Int) = ((dg v k * b + cyH v b D k : Nat) : Int) := by
              rw [Int.natCast_add, Int.natCast_mul]
            conv => whnf
            rw [e3]
            refine And.intro ⟨by omega, by omega, ⟨by omega, by omega⟩, ⟨by omega, by omega⟩⟩ (And.intro rfl ⟨(24, k, (dg (v * b + D) k : Int)), ⟨vs4' (by omega), by omega⟩, ?_⟩)
            rintro M3 rfl
            refine And.intro ⟨by omega, by omega, ⟨by omega, by omega⟩, ⟨by omega, by omega⟩⟩ (And.intro ?_ trivial)
            rw [show ((dg v k * b + cyH v b D k : Nat) : Int) / 32768 = (cyH v b D (k + 1) : Int) by omega]
            refine ihk (k + 1) _ _ (by omega) (fun j hj => ?_) (fun j hj1 hj2 => ?_) ?_ ?_
            · by_cases c : j = k
              · rw [c, up2_s]
              · rw [up2_k (by omega)]
                exact h1 j (by omega)
            · rw [up2_k (by omega)]
              exact h2 j (by omega) hj2
            · rw [up2_i (by decide)]
              exact h3
            · exact hF'.tr ((FrM.put (d := 24) (i := k) (by omega)).L (by decide))
        have e58 : M 58 i = T.2 i := by
          rw [hF.1 58 (by decide) (by decide)]
          exact hT2 i (by omega)
        have hb8 := hT1 i (by omega)
        refine run 60 [127] _ _ _ _ ?_
        refine And.intro ⟨⟨by omega, by omega⟩, ⟨by omega, by omega⟩⟩ (And.intro (fun c1 => absurd c1 (by omega)) (fun _ => ?_))
        refine And.intro rfl (And.intro ⟨rfl, by omega, by omega⟩ ?_)
        conv => whnf
        rw [Int.toNat_natCast, e58]
        refine ⟨T.2 i, ⟨rfl, ⟨by omega, by omega⟩⟩, ?_⟩
        rintro x M ⟨rfl, rfl⟩
        refine And.intro rfl (And.intro ⟨rfl, by omega, by omega⟩ ?_)
        refine And.intro ?_ trivial
        have hA1 := hA.1
        show aw 127 [some (.inr (.inr 50)), some (.inl (d : Int)), some (.inl (b : Int)), some (.inl (N : Int)), some (.inl (g : Int)), some (.inl (i : Int)), some (.inl (dgC (T.2 i))), some (.inl (M 52 24)), some (.inl 0), o9] [] M
        rw [hA1, eD]
        have := inner (nd v) 0 M o9 (by omega) (fun j hj => absurd hj (Nat.not_lt_zero j)) (fun j _ hj => hA.2 j hj) hA1 hF
        rw [cyH_0] at this
        exact this
    refine run 60 [97] _ _ _ _ ?_
    refine And.intro rfl (And.intro ⟨rfl, by omega, by omega⟩ (And.intro ?_ trivial))
    refine outer N 0 _ _ _ _ _ (by omega) ⟨?_, fun i hi => ?_⟩ ((FrM.len (d := 24) (x := 0)).L (by decide))
    · show up2 M2 52 24 0 52 24 = _
      rw [up2_s]
      rfl
    · rw [show hvF T.2 b 0 = 0 from rfl, nd_0] at hi
      omega
  have loop : ∀ (r i : Nat), i + r = N → gdF T.2 (b : Int) r i = g → aw 42 [some (.inr (.inr 50)), some (.inl (d : Int)), some (.inl (b : Int)), some (.inl (N : Int)), some (.inl (i : Int)), none, none, none, none, none] [] M2 := by
    intro r
    induction r with
    | zero =>
      intro i hi hg
      have hg2 : i = g := hg
      subst hg2
      refine run 60 [42, 78, 86] _ _ _ _ ?_
      refine And.intro ⟨⟨by omega, by omega⟩, ⟨by omega, by omega⟩⟩ (And.intro (fun _ => ?_) (fun c2 => absurd c2 (by omega)))
      refine And.intro ⟨⟨by omega, by omega⟩, ⟨by omega, by omega⟩⟩ (And.intro (fun c1 => absurd c1 (by omega)) (fun _ => ?_))
      refine And.intro ⟨⟨by omega, by omega⟩, ⟨by omega, by omega⟩⟩ (And.intro (fun c1 => ?_) (fun c2 => ?_))
      · exact And.intro (go (by omega) (by omega)) trivial
      · exact And.intro (badF (by omega)) trivial
    | succ r ih =>
      intro i hi hg
      rw [gdF] at hg
      have hb8 := hT1 i (by omega)
      refine run 60 [42, 78, 86] _ _ _ _ ?_
      refine And.intro ⟨⟨by omega, by omega⟩, ⟨by omega, by omega⟩⟩ (And.intro (fun c1 => absurd c1 (by omega)) (fun _ => ?_))
      refine And.intro rfl (And.intro ⟨rfl, by omega, by omega⟩ ?_)
      conv => whnf
      rw [Int.toNat_natCast, hT2 i (by omega)]
      refine ⟨T.2 i, ⟨rfl, ⟨by omega, by omega⟩⟩, ?_⟩
      rintro x M2 ⟨rfl, rfl⟩
      have hn := dgC_nn (T.2 i)
      have hu : dgC (T.2 i) ≤ 99 := by
        unfold dgC
        split
        · omega
        · split <;> omega
      by_cases c : dgC (T.2 i) < (b : Int)
      · rw [if_pos c] at hg
        refine And.intro ⟨⟨by omega, by omega⟩, ⟨by omega, by omega⟩⟩ (And.intro (fun c1 => absurd c1 (by omega)) (fun _ => ?_))
        refine And.intro ?_ trivial
        exact ih (i + 1) (by omega) hg
      · rw [if_neg c] at hg
        subst hg
        refine And.intro ⟨⟨by omega, by omega⟩, ⟨by omega, by omega⟩⟩ (And.intro (fun _ => ?_) (fun c2 => absurd c2 (by omega)))
        refine And.intro ⟨⟨by omega, by omega⟩, ⟨by omega, by omega⟩⟩ (And.intro (fun _ => ?_) (fun c2 => absurd c2 (by omega)))
        exact And.intro (badF (by omega)) trivial
  exact And.intro (loop N 0 (by omega) eg.symm) trivial
theorem imX8_number {l : Launch} {Z : ZT} (hZ : ZOk Z) : Impl l Z yX8_number cX8_number 10 (some .int) 4 c_number := mkImpl (rt := 1) (CL := [(138, some 8, c_isLiveL), (127, none, c_isIn), (168, none, c_digit), (76, some 8, c_atR), (80, some 8, c_put), (85, some 8, c_fix), (153, some 8, c_comes)]) hZ.1 hZ.2.1 (by decide +kernel) kX8_number fwX8 iwX8 lwX8 trivial (Nat.le_of_ble_eq_true rfl) (List.forall_mem_cons.mpr ⟨gX8_138_L hZ (by decide), List.forall_mem_cons.mpr ⟨gX8_127 hZ (by decide), List.forall_mem_cons.mpr ⟨gX8_168 hZ (by decide), List.forall_mem_cons.mpr ⟨gX8_76_R hZ (by decide), List.forall_mem_cons.mpr ⟨gX8_80 hZ (by decide), List.forall_mem_cons.mpr ⟨gX8_85 hZ (by decide), List.forall_mem_cons.mpr ⟨gX8_153 hZ (by decide), fun q h => absurd h List.not_mem_nil⟩⟩⟩⟩⟩⟩⟩) ((v_number _))
