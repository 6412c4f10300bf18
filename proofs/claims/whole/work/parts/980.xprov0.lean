/-! ===== the class: primes and their factors ===== -/
/-- L is the least divisor above 1 of v -/
def LD (v L : Nat) : Prop := 2 ≤ L ∧ L ≤ v ∧ v % L = 0 ∧ ∀ d, 2 ≤ d → d < L → v % d ≠ 0
theorem LD.pr {v L : Nat} (h : LD v L) : Pr L := ⟨h.1, fun d a b z => h.2.2.2 d a b (Nat.mod_eq_zero_of_dvd (Nat.dvd_trans (Nat.dvd_of_mod_eq_zero z) (Nat.dvd_of_mod_eq_zero h.2.2.1)))⟩
theorem LD.self {v : Nat} (h : Pr v) : LD v v := ⟨h.1, Nat.le_refl _, Nat.mod_self v, h.2⟩
def c_leastF : Call := ⟨Nat × Nat, 2, (fun (v, f) vs _ => vs = [.inl (v : Int), .inl (f : Int)] ∧ 2 ≤ v ∧ v < 1073741824 ∧ (f = 2 ∨ (f % 2 = 1 ∧ 3 ≤ f)) ∧ f < 2147483648 ∧ ∀ d, 2 ≤ d → d < f → v % d ≠ 0), .inr (fun (v, _) _ M x M' => (∃ L : Nat, x = (L : Int) ∧ LD v L) ∧ M' = M)⟩
theorem v_leastF (n : Nn) : Ver tX4_leastFactor (fdX4, icX4, lcX4, [(22, none, c_max)]) 1 3 n c_leastF := by
  rintro ⟨v, f⟩ vs M0 ⟨rfl, v2, vl, hf, hfl, hno⟩ aw run
  have done : ∀ g : Nat, (∀ d, 2 ≤ d → d < g → v % d ≠ 0) → v < g * g → aw 44 [some (.inl (v : Int)), some (.inl (f : Int)), some (.inl (g : Int))] [] M0 := by
    intro g hg hv
    refine run 60 [] _ _ _ _ ?_
    have g0 : 0 < g := Nat.pos_of_ne_zero (fun z => by rw [z] at hv; omega)
    exact Or.inl ⟨⟨v, rfl, LD.self (Pr_sq v2 hg ((Nat.div_lt_iff_lt_mul g0).mpr hv))⟩, rfl⟩
  have loop : ∀ (m g : Nat), 40000 ≤ g + m → g < 2147483648 → (g = 2 ∨ (g % 2 = 1 ∧ 3 ≤ g)) → (∀ d, 2 ≤ d → d < g → v % d ≠ 0) → aw 6 [some (.inl (v : Int)), some (.inl (f : Int)), some (.inl (g : Int))] [] M0 := by
    intro m
    induction m with
    | zero =>
      intro g hm hgl hg hd
      have h1 := Nat.mul_le_mul (show 40000 ≤ g by omega) (show 40000 ≤ g by omega)
      refine run 60 [6, 44] _ _ _ _ ?_
      refine And.intro ⟨⟨by omega, by omega⟩, ⟨by omega, by omega⟩⟩ (And.intro (fun _ => ?_) (fun c2 => absurd c2 (by omega)))
      exact And.intro (done g hd (by omega)) trivial
    | succ m ih =>
      intro g hm hgl hg hd
      refine run 60 [6, 44] _ _ _ _ ?_
      refine And.intro ⟨⟨by omega, by omega⟩, ⟨by omega, by omega⟩⟩ (And.intro (fun c1 => ?_) (fun c2 => ?_))
      · have h1 := Nat.mul_le_mul (show 32768 ≤ g by omega) (show 32768 ≤ g by omega)
        exact And.intro (done g hd (by omega)) trivial
      have h1 := Nat.mul_le_mul (show g ≤ 32767 by omega) (show g ≤ 32767 by omega)
      have hdone := done g hd
      conv => whnf
      rw [← Int.natCast_mul]
      generalize g * g = gg at *
      refine And.intro ⟨⟨by omega, by omega⟩, ⟨by omega, by omega⟩⟩ (And.intro (fun c1 => ?_) (fun c2 => ?_))
      · exact And.intro (hdone (by omega)) trivial
      refine And.intro ⟨by omega, by omega, ⟨by omega, by omega⟩, ⟨by omega, by omega⟩⟩ ?_
      conv => whnf
      rw [← Int.natCast_emod]
      have hml := Nat.mod_lt v (show 0 < g by omega)
      by_cases hz : v % g = 0
      · rw [hz]
        refine And.intro ⟨⟨by omega, by omega⟩, ⟨by omega, by omega⟩⟩ (And.intro (fun c1 => absurd c1 (by omega)) (fun _ => ?_))
        exact Or.inl ⟨⟨g, rfl, by omega, Nat.le_of_dvd (by omega) (Nat.dvd_of_mod_eq_zero hz), hz, hd⟩, rfl⟩
      refine And.intro ⟨⟨by omega, by omega⟩, ⟨by omega, by omega⟩⟩ (And.intro (fun _ => ?_) (fun c2 => absurd c2 (by omega)))
      refine And.intro ⟨⟨by omega, by omega⟩, ⟨by omega, by omega⟩⟩ (And.intro (fun c1 => ?_) (fun c2 => ?_))
      · refine And.intro ?_ trivial
        rw [show (g : Int) + 2 = ((g + 2 : Nat) : Int) by omega]
        refine ih (g + 2) (by omega) (by omega) (Or.inr ⟨by omega, by omega⟩) (fun d d1 d2 => ?_)
        by_cases c : d < g
        · exact hd d d1 c
        · by_cases c3 : d = g
          · rw [c3]
            exact hz
          · intro z
            have d3 : d = g + 1 := by omega
            refine hd 2 (by omega) (by omega) (Nat.mod_eq_zero_of_dvd (Nat.dvd_trans ?_ (Nat.dvd_of_mod_eq_zero z)))
            exact Nat.dvd_of_mod_eq_zero (by omega)
      · refine And.intro ?_ trivial
        rw [show (g : Int) + 1 = ((g + 1 : Nat) : Int) by omega]
        refine ih (g + 1) (by omega) (by omega) (Or.inr ⟨by omega, by omega⟩) (fun d d1 d2 => ?_)
        have : d = g := by omega
        rw [this]
        exact hz
  change aw 0 [some (.inl (v : Int)), some (.inl (f : Int)), none] [] M0
  refine run 60 [6] _ _ _ _ ?_
  refine ⟨(2, (f : Int)), ⟨rfl, ⟨by omega, by omega⟩, ⟨by omega, by omega⟩⟩, ?_⟩
  rintro x M0 ⟨rfl, rfl⟩
  refine And.intro ?_ trivial
  rw [show max 2 (f : Int) = (f : Int) by omega]
  exact loop 40000 f (by omega) hfl hf hno
theorem imX4_leastFactor {l : Launch} {Z : ZT} (hZ : ZOk Z) : Impl l Z yX4_leastFactor cX4_leastFactor 3 (some .int) 2 c_leastF := mkImpl (rt := 1) (CL := [(22, none, c_max)]) hZ.1 hZ.2.1 (by decide +kernel) kX4_leastFactor fwX4 iwX4 lwX4 trivial (Nat.le_of_ble_eq_true rfl) (List.forall_mem_cons.mpr ⟨gX4_22 hZ (by decide), fun q h => absurd h List.not_mem_nil⟩) ((v_leastF _))
theorem gX4_18 {l : Launch} {Z : ZT} (hZ : ZOk Z) {d : Nat} (hd : 3 ≤ d) : CallI l Z RX4 d (18, none, c_leastF) := fun p e s m args below meth c Q cc nL x0 X => callOk_S X (imX4_leastFactor hZ) mlX4_18 sw_yX4_leastFactor nw_RX4 cw_yX4_leastFactor ⟨by decide +kernel, by decide +kernel, by decide +kernel⟩ ⟨hd, by decide⟩
def c_isPrX : Call := ⟨Nat × Nat, 1, (fun (v, _) vs _ => vs = [.inl (v : Int)] ∧ v < 1073741824), .inr (fun (v, _) _ M x M' => ((x = 1 ∧ Pr v) ∨ (x = 0 ∧ ¬ Pr v)) ∧ M' = M)⟩
theorem v_isPrX (n : Nn) : Ver tX4_isPrime (fdX4, icX4, lcX4, [(18, none, c_leastF)]) 2 1 n c_isPrX := by
  rintro ⟨v, z⟩ vs M0 ⟨rfl, hv⟩ aw run
  change aw 0 [some (.inl (v : Int))] [] M0
  refine run 60 [] _ _ _ _ ?_
  refine And.intro ⟨⟨by omega, by omega⟩, ⟨by omega, by omega⟩⟩ (And.intro (fun c1 => ?_) (fun c2 => ?_))
  · exact And.intro (Or.inl rfl) (Or.inl ⟨Or.inr ⟨rfl, fun z => by have := z.1; omega⟩, rfl⟩)
  refine ⟨(v, 2), ⟨rfl, by omega, hv, Or.inl rfl, by omega, fun d a b => by omega⟩, ?_⟩
  rintro x M0 ⟨⟨L, rfl, hL⟩, rfl⟩
  have l1 := hL.1
  have l2 := hL.2.1
  by_cases c : L = v
  · refine And.intro ⟨⟨by omega, by omega⟩, ⟨by omega, by omega⟩⟩ (And.intro (fun c1 => absurd c1 (by omega)) (fun _ => ?_))
    exact And.intro (Or.inr rfl) (Or.inl ⟨Or.inl ⟨rfl, c ▸ hL.pr⟩, rfl⟩)
  · refine And.intro ⟨⟨by omega, by omega⟩, ⟨by omega, by omega⟩⟩ (And.intro (fun _ => ?_) (fun c2 => absurd c2 (by omega)))
    exact And.intro (Or.inl rfl) (Or.inl ⟨Or.inr ⟨rfl, fun z => z.2 L l1 (by omega) hL.2.2.1⟩, rfl⟩)
theorem imX4_isPrime {l : Launch} {Z : ZT} (hZ : ZOk Z) : Impl l Z yX4_isPrime cX4_isPrime 1 (some .boolean) 3 c_isPrX := mkImpl (rt := 2) (CL := [(18, none, c_leastF)]) hZ.1 hZ.2.1 (by decide +kernel) kX4_isPrime fwX4 iwX4 lwX4 trivial (Nat.le_of_ble_eq_true rfl) (List.forall_mem_cons.mpr ⟨gX4_18 hZ (by decide), fun q h => absurd h List.not_mem_nil⟩) ((v_isPrX _))
theorem gX7_279 {l : Launch} {Z : ZT} (hZ : ZOk Z) {d : Nat} (hd : 4 ≤ d) : CallI l Z RX7 d (279, none, c_isPrX) := fun p e s m args below meth c Q cc nL x0 X => callOk_S X (imX4_isPrime hZ) mlX7_279 sw_yX4_isPrime nw_RX4 cw_yX4_isPrime ⟨by decide +kernel, by decide +kernel, by decide +kernel⟩ ⟨hd, by decide⟩
def c_expOf : Call := ⟨Nat × Nat, 2, (fun (q, v) vs _ => vs = [.inl (q : Int), .inl (v : Int)] ∧ 2 ≤ q ∧ q < 1073741824 ∧ 1 ≤ v ∧ v < 1073741824), .inr (fun (q, v) _ M x M' => x = (exF q v : Int) ∧ M' = M)⟩
theorem v_expOf (n : Nn) : Ver tX4_exponentOf (fdX4, icX4, lcX4, []) 1 4 n c_expOf := by
  rintro ⟨q, v⟩ vs M0 ⟨rfl, q2, ql, v1, vl⟩ aw run
  have hex : exF q v < 30 := lt_pw (exF_le q2 v (by omega)) vl
  have loop : ∀ (m e left : Nat), e + m = exF q v → exF q left = m → 1 ≤ left → left ≤ v → aw 4 [some (.inl (q : Int)), some (.inl (v : Int)), some (.inl (left : Int)), some (.inl (e : Int))] [] M0 := by
    intro m
    induction m with
    | zero =>
      intro e left he hl l1 l2
      have hm : left % q ≠ 0 := fun z => by
        have := exF_s q2 (by omega) z
        omega
      have hml := Nat.mod_lt left (show 0 < q by omega)
      refine run 60 [4] _ _ _ _ ?_
      refine And.intro ⟨⟨by omega, by omega⟩, ⟨by omega, by omega⟩⟩ (And.intro (fun c1 => absurd c1 (by omega)) (fun _ => ?_))
      refine And.intro ⟨⟨by omega, by omega⟩, ⟨by omega, by omega⟩⟩ (And.intro (fun c1 => absurd c1 (by omega)) (fun _ => ?_))
      refine And.intro ⟨by omega, by omega, ⟨by omega, by omega⟩, ⟨by omega, by omega⟩⟩ ?_
      conv => whnf
      rw [← Int.natCast_emod]
      refine And.intro ⟨⟨by omega, by omega⟩, ⟨by omega, by omega⟩⟩ (And.intro (fun _ => ?_) (fun c2 => absurd c2 (by omega)))
      refine Or.inl ⟨?_, rfl⟩
      show (e : Int) = (exF q v : Int)
      omega
    | succ m ih =>
      intro e left he hl l1 l2
      have hm : left % q = 0 := by
        by_cases c : left % q = 0
        · exact c
        · rw [exF_0 c] at hl
          omega
      have hs := exF_s q2 (by omega) hm
      have hdl := Nat.div_le_self left q
      have hd1 : 1 ≤ left / q := (Nat.le_div_iff_mul_le (by omega)).mpr (by rw [Nat.one_mul]; exact Nat.le_of_dvd (by omega) (Nat.dvd_of_mod_eq_zero hm))
      refine run 60 [4] _ _ _ _ ?_
      refine And.intro ⟨⟨by omega, by omega⟩, ⟨by omega, by omega⟩⟩ (And.intro (fun c1 => absurd c1 (by omega)) (fun _ => ?_))
      refine And.intro ⟨⟨by omega, by omega⟩, ⟨by omega, by omega⟩⟩ (And.intro (fun c1 => absurd c1 (by omega)) (fun _ => ?_))
      refine And.intro ⟨by omega, by omega, ⟨by omega, by omega⟩, ⟨by omega, by omega⟩⟩ ?_
      conv => whnf
      rw [← Int.natCast_emod, hm]
      refine And.intro ⟨⟨by omega, by omega⟩, ⟨by omega, by omega⟩⟩ (And.intro (fun c1 => absurd c1 (by omega)) (fun _ => ?_))
      refine And.intro ⟨by omega, by omega, ⟨by omega, by omega⟩, ⟨by omega, by omega⟩⟩ (And.intro ?_ trivial)
      rw [← Int.natCast_ediv, show (e : Int) + 1 = ((e + 1 : Nat) : Int) by omega]
      exact ih (e + 1) (left / q) (by omega) (by omega) hd1 (by omega)
  change aw 0 [some (.inl (q : Int)), some (.inl (v : Int)), none, none] [] M0
  refine run 60 [4] _ _ _ _ ?_
  exact And.intro (loop (exF q v) 0 v (by omega) rfl v1 (Nat.le_refl _)) trivial
theorem imX4_exponentOf {l : Launch} {Z : ZT} (hZ : ZOk Z) : Impl l Z yX4_exponentOf cX4_exponentOf 4 (some .int) 1 c_expOf := mkImpl (rt := 1) (CL := []) hZ.1 hZ.2.1 (by decide +kernel) kX4_exponentOf fwX4 iwX4 lwX4 trivial (Nat.le_of_ble_eq_true rfl) (fun q h => absurd h List.not_mem_nil) ((v_expOf _))
theorem gX4_52 {l : Launch} {Z : ZT} (hZ : ZOk Z) {d : Nat} (hd : 2 ≤ d) : CallI l Z RX4 d (52, none, c_expOf) := fun p e s m args below meth c Q cc nL x0 X => callOk_S X (imX4_exponentOf hZ) mlX4_52 sw_yX4_exponentOf nw_RX4 cw_yX4_exponentOf ⟨by decide +kernel, by decide +kernel, by decide +kernel⟩ ⟨hd, by decide⟩
def c_powM : Call := ⟨Nat × Nat × Nat, 3, (fun (w, e, p) vs _ => vs = [.inl (w : Int), .inl (e : Int), .inl (p : Int)] ∧ w < 2147483648 ∧ e < 2147483648 ∧ p < 2147483648 ∧ 0 < p), .inr (fun (w, e, p) _ M x M' => x = ((w ^ e % p : Nat) : Int) ∧ M' = M)⟩
theorem v_powM (n : Nn) : Ver tX4_powerModulo (fdX4, icX4, lcX4, []) 1 8 n c_powM := by
  rintro ⟨w, e, p⟩ vs M0 ⟨rfl, hw, he, hp, hp0⟩ aw run
  have loop : ∀ (f k R X : Nat), k ≤ f → k < 2147483648 → R < p → X < p → (R * X ^ k) % p = w ^ e % p → aw 21 [some (.inl (w : Int)), some (.inl (e : Int)), some (.inl (p : Int)), some (.inr (.inl (X : Int))), none, some (.inr (.inl (R : Int))), none, some (.inl (k : Int))] [] M0 := by
    intro f
    induction f with
    | zero =>
      intro k R X hk hk2 hR hX he
      obtain rfl : k = 0 := by omega
      refine run 40 [21] _ _ _ _ ?_
      refine And.intro ⟨⟨by omega, by omega⟩, ⟨by omega, by omega⟩⟩ (And.intro (fun _ => ?_) (fun c2 => absurd c2 (by omega)))
      refine Or.inl (And.intro ?_ rfl)
      rw [Nat.pow_zero, Nat.mul_one, Nat.mod_eq_of_lt hR] at he
      rw [he]
    | succ f ih =>
      intro k R X hk hk2 hR hX he
      have m1 := Nat.mul_lt_mul'' hR hX
      have m2 := Nat.mul_lt_mul'' hX hX
      have m3 := Nat.mul_le_mul (show p ≤ 2147483648 by omega) (show p ≤ 2147483648 by omega)
      have e1 : (R : Int) * (X : Int) = ((R * X : Nat) : Int) := (Int.natCast_mul _ _).symm
      have e2 : (X : Int) * (X : Int) = ((X * X : Nat) : Int) := (Int.natCast_mul _ _).symm
      have e3 : ((R * X : Nat) : Int) % (p : Int) = ((R * X % p : Nat) : Int) := (Int.natCast_emod _ _).symm
      have e4 : ((X * X : Nat) : Int) % (p : Int) = ((X * X % p : Nat) : Int) := (Int.natCast_emod _ _).symm
      have d1 := Nat.mod_lt (R * X) hp0
      have d2 := Nat.mod_lt (X * X) hp0
      have nx1 : k % 2 = 1 → aw 21 [some (.inl (w : Int)), some (.inl (e : Int)), some (.inl (p : Int)), some (.inr (.inl ((X * X % p : Nat) : Int))), none, some (.inr (.inl ((R * X % p : Nat) : Int))), none, some (.inl ((k / 2 : Nat) : Int))] [] M0 := fun h1 => ih (k / 2) _ _ (by omega) (by omega) d1 d2 (by rw [pw_odd h1]; exact he)
      have nx0 : k % 2 = 0 → 0 < k → aw 21 [some (.inl (w : Int)), some (.inl (e : Int)), some (.inl (p : Int)), some (.inr (.inl ((X * X % p : Nat) : Int))), none, some (.inr (.inl (R : Int))), none, some (.inl ((k / 2 : Nat) : Int))] [] M0 := fun h1 h0 => ih (k / 2) _ _ (by omega) (by omega) hR d2 (by rw [pw_even h1]; exact he)
      generalize R * X = rx at *
      generalize X * X = xx at *
      have ek : (k : Int) / 2 = ((k / 2 : Nat) : Int) := by omega
      refine run 60 [21] _ _ _ _ ?_
      refine And.intro ⟨⟨by omega, by omega⟩, ⟨by omega, by omega⟩⟩ (And.intro (fun c1 => ?_) (fun c2 => ?_))
      · obtain rfl : k = 0 := by omega
        refine Or.inl (And.intro ?_ rfl)
        rw [Nat.pow_zero, Nat.mul_one, Nat.mod_eq_of_lt hR] at he
        rw [he]
      refine And.intro ⟨by omega, by omega, ⟨by omega, by omega⟩, ⟨by omega, by omega⟩⟩ ?_
      by_cases hk1 : k % 2 = 1
      · refine And.intro ⟨⟨by omega, by omega⟩, ⟨by omega, by omega⟩⟩ (And.intro (fun c1 => absurd c1 (by omega)) (fun _ => ?_))
        refine And.intro ⟨by omega, by omega⟩ ?_
        conv => whnf
        rw [e1]
        refine And.intro ⟨by omega, by omega, ⟨by omega, by omega⟩, ⟨by omega, by omega⟩⟩ ?_
        refine And.intro ⟨by omega, by omega⟩ ?_
        conv => whnf
        rw [e2]
        refine And.intro ⟨by omega, by omega, ⟨by omega, by omega⟩, ⟨by omega, by omega⟩⟩ (And.intro ⟨by omega, by omega, ⟨by omega, by omega⟩, ⟨by omega, by omega⟩⟩ (And.intro ?_ trivial))
        rw [e3, e4, ek]
        exact nx1 hk1
      · refine And.intro ⟨⟨by omega, by omega⟩, ⟨by omega, by omega⟩⟩ (And.intro (fun _ => ?_) (fun c2 => absurd c2 (by omega)))
        refine And.intro ⟨by omega, by omega⟩ ?_
        conv => whnf
        rw [e2]
        refine And.intro ⟨by omega, by omega, ⟨by omega, by omega⟩, ⟨by omega, by omega⟩⟩ (And.intro ⟨by omega, by omega, ⟨by omega, by omega⟩, ⟨by omega, by omega⟩⟩ (And.intro ?_ trivial))
        rw [e4, ek]
        exact nx0 (by omega) (by omega)
  have ew : (w : Int) % (p : Int) = ((w % p : Nat) : Int) := (Int.natCast_emod _ _).symm
  have eo : (1 : Int) % (p : Int) = ((1 % p : Nat) : Int) := by rw [Int.natCast_emod]; rfl
  have d1 := Nat.mod_lt w hp0
  have d2 := Nat.mod_lt 1 hp0
  change aw 0 [some (.inl (w : Int)), some (.inl (e : Int)), some (.inl (p : Int)), none, none, none, none, none] [] M0
  refine run 60 [21] _ _ _ _ ?_
  refine And.intro ⟨⟨by omega, by omega⟩, ⟨by omega, by omega⟩⟩ (And.intro (fun _ => ?_) (fun c2 => absurd c2 (by omega)))
  refine And.intro ⟨by omega, by omega, ⟨by omega, by omega⟩, ⟨by omega, by omega⟩⟩ ?_
  conv => whnf
  rw [ew]
  refine And.intro ⟨by omega, by omega⟩ (And.intro ⟨by omega, by omega, ⟨by omega, by omega⟩, ⟨by omega, by omega⟩⟩ ?_)
  conv => whnf
  rw [eo]
  refine And.intro ⟨by omega, by omega⟩ (And.intro ?_ trivial)
  refine loop e e (1 % p) (w % p) (Nat.le_refl _) he d2 d1 ?_
  rw [Nat.mul_mod, Nat.mod_mod, ← Nat.pow_mod, ← Nat.mul_mod, Nat.one_mul]
theorem imX4_powerModulo {l : Launch} {Z : ZT} (hZ : ZOk Z) : Impl l Z yX4_powerModulo cX4_powerModulo 8 (some .int) 1 c_powM := mkImpl (rt := 1) (CL := []) hZ.1 hZ.2.1 (by decide +kernel) kX4_powerModulo fwX4 iwX4 lwX4 trivial (Nat.le_of_ble_eq_true rfl) (fun q h => absurd h List.not_mem_nil) ((v_powM _))
theorem gX4_59 {l : Launch} {Z : ZT} (hZ : ZOk Z) {d : Nat} (hd : 2 ≤ d) : CallI l Z RX4 d (59, none, c_powM) := fun p e s m args below meth c Q cc nL x0 X => callOk_S X (imX4_powerModulo hZ) mlX4_59 sw_yX4_powerModulo nw_RX4 cw_yX4_powerModulo ⟨by decide +kernel, by decide +kernel, by decide +kernel⟩ ⟨hd, by decide⟩
/-- ten primes multiply above 2 to the 30 -/
theorem pr30 : ∀ x, x < 30 → prB x = true → x = 2 ∨ x = 3 ∨ x = 5 ∨ x = 7 ∨ x = 11 ∨ x = 13 ∨ x = 17 ∨ x = 19 ∨ x = 23 ∨ x = 29 := by decide +kernel
theorem pr_nx {x : Nat} (h : Pr x) : (2 ≤ x) ∧ (2 < x → 3 ≤ x) ∧ (3 < x → 5 ≤ x) ∧ (5 < x → 7 ≤ x) ∧ (7 < x → 11 ≤ x) ∧ (11 < x → 13 ≤ x) ∧ (13 < x → 17 ≤ x) ∧ (17 < x → 19 ≤ x) ∧ (19 < x → 23 ≤ x) ∧ (23 < x → 29 ≤ x) := by
  have h2 := h.1
  by_cases c : x < 30
  · have := pr30 x c (prB_i.mpr h)
    omega
  · omega
theorem pd_tail {n : Nat} : ∀ {r i q : Nat} {l : List Nat}, pdv n i r = q :: l → i ≤ q ∧ Pr q ∧ ∃ r', l = pdv n (q + 1) r' := by
  intro r
  induction r with
  | zero => intro i q l e; cases e
  | succ r ih =>
    intro i q l e
    rw [pdv] at e
    split at e
    · rename_i c
      have e := List.cons.inj e
      rw [← e.1]
      exact ⟨Nat.le_refl _, prB_i.mp c.1, r, e.2.symm⟩
    · have := ih e
      exact ⟨by omega, this.2⟩
theorem fs_9 {n : Nat} (h1 : 1 ≤ n) (h : n < 1073741824) : (fs n).length ≤ 9 := by
  refine Nat.le_of_not_lt (fun c => ?_)
  have hd : lpr (fs n) ∣ n := lpr_dv
  have hle := Nat.le_of_dvd (by omega) hd
  have hall : ∀ x ∈ fs n, 2 ≤ x := fun x hx => ((fs_mem h1).mp hx).1.1
  unfold fs at c hle hall
  -- ten times the head is split off
  rcases e0 : pdv n 2 (n - 1) with _ | ⟨x0, l0⟩
  · rw [e0] at c; simp at c
  obtain ⟨a0, p0, r0, t0⟩ := pd_tail e0
  rcases e1 : l0 with _ | ⟨x1, l1⟩
  · rw [e0, e1] at c; simp at c
  obtain ⟨a1, p1, r1, t1⟩ := pd_tail (t0.symm.trans e1)
  rcases e2 : l1 with _ | ⟨x2, l2⟩
  · rw [e0, e1, e2] at c; simp at c
  obtain ⟨a2, p2, r2, t2⟩ := pd_tail (t1.symm.trans e2)
  rcases e3 : l2 with _ | ⟨x3, l3⟩
  · rw [e0, e1, e2, e3] at c; simp at c
  obtain ⟨a3, p3, r3, t3⟩ := pd_tail (t2.symm.trans e3)
  rcases e4 : l3 with _ | ⟨x4, l4⟩
  · rw [e0, e1, e2, e3, e4] at c; simp at c
  obtain ⟨a4, p4, r4, t4⟩ := pd_tail (t3.symm.trans e4)
  rcases e5 : l4 with _ | ⟨x5, l5⟩
  · rw [e0, e1, e2, e3, e4, e5] at c; simp at c
  obtain ⟨a5, p5, r5, t5⟩ := pd_tail (t4.symm.trans e5)
  rcases e6 : l5 with _ | ⟨x6, l6⟩
  · rw [e0, e1, e2, e3, e4, e5, e6] at c; simp at c
  obtain ⟨a6, p6, r6, t6⟩ := pd_tail (t5.symm.trans e6)
  rcases e7 : l6 with _ | ⟨x7, l7⟩
  · rw [e0, e1, e2, e3, e4, e5, e6, e7] at c; simp at c
  obtain ⟨a7, p7, r7, t7⟩ := pd_tail (t6.symm.trans e7)
  rcases e8 : l7 with _ | ⟨x8, l8⟩
  · rw [e0, e1, e2, e3, e4, e5, e6, e7, e8] at c; simp at c
  obtain ⟨a8, p8, r8, t8⟩ := pd_tail (t7.symm.trans e8)
  rcases e9 : l8 with _ | ⟨x9, l9⟩
  · rw [e0, e1, e2, e3, e4, e5, e6, e7, e8, e9] at c; simp at c
  obtain ⟨a9, p9, r9, t9⟩ := pd_tail (t8.symm.trans e9)
  rw [e0, e1, e2, e3, e4, e5, e6, e7, e8, e9] at hle hall
  have n0 := pr_nx p0
  have n1 := pr_nx p1
  have n2 := pr_nx p2
  have n3 := pr_nx p3
  have n4 := pr_nx p4
  have n5 := pr_nx p5
  have n6 := pr_nx p6
  have n7 := pr_nx p7
  have n8 := pr_nx p8
  have n9 := pr_nx p9
  have b0 : 2 ≤ x0 := by omega
  have b1 : 3 ≤ x1 := by omega
  have b2 : 5 ≤ x2 := by omega
  have b3 : 7 ≤ x3 := by omega
  have b4 : 11 ≤ x4 := by omega
  have b5 : 13 ≤ x5 := by omega
  have b6 : 17 ≤ x6 := by omega
  have b7 : 19 ≤ x7 := by omega
  have b8 : 23 ≤ x8 := by omega
  have b9 : 29 ≤ x9 := by omega
  have hp : 1 ≤ lpr l9 := by
    have := lpr_len (l := l9) (fun x hx => hall x (by simp [hx]))
    exact Nat.le_trans (Nat.pow_pos (by decide)) this
  have key : 2 * (3 * (5 * (7 * (11 * (13 * (17 * (19 * (23 * (29 * 1))))))))) ≤ x0 * (x1 * (x2 * (x3 * (x4 * (x5 * (x6 * (x7 * (x8 * (x9 * lpr l9))))))))) := Nat.mul_le_mul b0 (Nat.mul_le_mul b1 (Nat.mul_le_mul b2 (Nat.mul_le_mul b3 (Nat.mul_le_mul b4 (Nat.mul_le_mul b5 (Nat.mul_le_mul b6 (Nat.mul_le_mul b7 (Nat.mul_le_mul b8 (Nat.mul_le_mul b9 hp)))))))))
  have hle2 : x0 * (x1 * (x2 * (x3 * (x4 * (x5 * (x6 * (x7 * (x8 * (x9 * lpr l9))))))))) ≤ n := hle
  clear hle hall c
  generalize x0 * (x1 * (x2 * (x3 * (x4 * (x5 * (x6 * (x7 * (x8 * (x9 * lpr l9))))))))) = z at *
  omega
