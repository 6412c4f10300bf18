/-! ===== the class: rows, small factors; Arrays.fill ===== -/
def c_timesPlus : Call := ⟨Nat × Nat × Nat × Nat, 3, (fun (r, b, d, v) vs M => vs = [.inr (.inr r), .inl (b : Int), .inl (d : Int)] ∧ isRw r ∧ 2 ≤ b ∧ b ≤ 36 ∧ d < b ∧ XR M r v ∧ nd v ≤ 129), .inl (fun (r, b, d, v) _ M M' => XR M' r (v * b + d) ∧ FrX M M' r)⟩
theorem v_timesPlus (n : Nn) : Ver tX5_timesPlus (fdX5, icX5, lcX5, []) 0 6 n c_timesPlus := by
  rintro ⟨r, b, D, v⟩ vs M0 ⟨rfl, hr, b2, b36, hD, hv, hn⟩ aw run
  have hl := hr.ln n
  have h1 : M0 r 1 = (nd v : Int) := hv.1
  have loop : ∀ (m k : Nat) (M : Mem) (o5 : Option AV), k + m = nd v → (∀ j, j < k → M (r + 1) j = (dg (v * b + D) j : Int)) → (∀ j, k ≤ j → j < nd v → M (r + 1) j = (dg v j : Int)) → M r 1 = (nd v : Int) → FrX M0 M r → aw 5 [some (.inr (.inr r)), some (.inl (b : Int)), some (.inl (D : Int)), some (.inl (cyH v b D k : Int)), some (.inl (k : Int)), o5] [] M := by
    intro m
    induction m with
    | zero =>
      intro k M o5 hk ha hb hc hF
      obtain rfl : k = nd v := by omega
      have hcy := cyH_lt (v := v) (b := b) (d := D) (k := nd v) (by omega)
      have hlt : v * b + D < 32768 ^ (nd v + 1) := mulp_lt (Nat.le_refl _) (by omega) (by omega)
      have ecy : cyH v b D (nd v) = dg (v * b + D) (nd v) := by
        have := cyH_d v b D (nd v)
        rw [dg_z (v := v) (Nat.le_refl _), Nat.zero_mul, Nat.zero_add, Nat.mod_eq_of_lt (by omega)] at this
        exact this
      have hge : nd v ≤ nd (v * b + D) := nd_mono (Nat.le_trans (Nat.le_mul_of_pos_right v (by omega)) (Nat.le_add_right _ _))
      have hle : nd (v * b + D) ≤ nd v + 1 := nd_le.mpr hlt
      refine run 60 [5] _ _ _ _ ?_
      refine And.intro hr.kd ?_
      refine And.intro ⟨⟨by omega, by omega⟩, ⟨by omega, by omega⟩⟩ (And.intro (fun _ => ?_) (fun c2 => absurd c2 (by omega)))
      by_cases c : cyH v b D (nd v) = 0
      · refine And.intro ⟨⟨by omega, by omega⟩, ⟨by omega, by omega⟩⟩ (And.intro (fun _ => ?_) (fun c2 => absurd c2 (by omega)))
        have e : nd (v * b + D) = nd v := by
          have := nd_dn hle (by rw [← ecy]; exact c)
          omega
        refine Or.inl ⟨⟨by rw [hc, e], fun i hi => ha i (by omega)⟩, hF⟩
      · refine And.intro ⟨⟨by omega, by omega⟩, ⟨by omega, by omega⟩⟩ (And.intro (fun c1 => absurd c1 (by omega)) (fun _ => ?_))
        have e : nd (v * b + D) = nd v + 1 := nd_up hle (by rw [← ecy]; exact c)
        refine And.intro hr.kd (And.intro hr.kd (And.intro hr.ka ?_))
        refine And.intro ⟨⟨by omega, by omega⟩, ⟨by omega, by omega⟩⟩ (And.intro (fun c1 => absurd c1 (by omega)) (fun _ => ?_))
        refine And.intro hr.kd (And.intro hr.kd (And.intro ⟨hr.ka, by omega, by omega⟩ ?_))
        conv => whnf
        rw [hc, Int.toNat_natCast]
        have f1 : up2 M (r + 1) (nd v) (cyH v b D (nd v) : Int) r 1 = (nd v : Int) := by rw [up2_i (by omega)]; exact hc
        refine And.intro hr.kd (And.intro hr.kd (Or.inl ?_))
        show XR (up2 (up2 M (r + 1) (nd v) (cyH v b D (nd v) : Int)) r 1 (up2 M (r + 1) (nd v) (cyH v b D (nd v) : Int) r 1 + 1)) r (v * b + D) ∧ FrX M0 (up2 (up2 M (r + 1) (nd v) (cyH v b D (nd v) : Int)) r 1 (up2 M (r + 1) (nd v) (cyH v b D (nd v) : Int) r 1 + 1)) r
        rw [f1]
        refine ⟨⟨by rw [up2_s, e]; rfl, fun i hi => ?_⟩, (hF.tr FrX.put).tr FrX.len⟩
        show up2 (up2 M (r + 1) (nd v) (cyH v b D (nd v) : Int)) r 1 _ (r + 1) i = _
        rw [up2_i (by omega)]
        by_cases ci : i = nd v
        · rw [ci, up2_s, ecy]
        · rw [up2_k ci]
          exact ha i (by omega)
    | succ m ih =>
      intro k M o5 hk ha hb hc hF
      have hcy := cyH_lt (v := v) (b := b) (d := D) (k := k) (by omega)
      have hg := dg_lt v k
      have hmul : dg v k * b ≤ 32767 * 36 := Nat.mul_le_mul (by omega) (by omega)
      have e1 := cyH_d v b D k
      have e2 := cyH_s v b D k
      have e3 : (dg v k : Int) * (b : Int) + (cyH v b D k : Int) = ((dg v k * b + cyH v b D k : Nat) : Int) := by
        rw [Int.natCast_add, Int.natCast_mul]
      refine run 60 [5] _ _ _ _ ?_
      refine And.intro hr.kd ?_
      refine And.intro ⟨⟨by omega, by omega⟩, ⟨by omega, by omega⟩⟩ (And.intro (fun c1 => absurd c1 (by omega)) (fun _ => ?_))
      refine And.intro hr.kd (And.intro ⟨hr.ka, by omega, by omega⟩ ?_)
      conv => whnf
      rw [Int.toNat_natCast, hb k (Nat.le_refl _) (by omega), e3]
      refine And.intro hr.kd (And.intro ⟨hr.ka, by omega, by omega⟩ (And.intro ⟨⟨by omega, by omega⟩, by omega, by omega⟩ (And.intro ?_ trivial)))
      have e4 : ((dg v k * b + cyH v b D k : Nat) : Int) / 2 ^ ((15 : Int)).toNat = (cyH v b D (k + 1) : Int) := by
        rw [show ((2 : Int) ^ ((15 : Int)).toNat) = 32768 by decide]
        omega
      rw [e4, Int.toNat_natCast, bAnd_15, show ((dg v k * b + cyH v b D k : Nat) : Int) % 32768 = (dg (v * b + D) k : Int) by omega]
      refine ih (k + 1) _ _ (by omega) (fun j hj => ?_) (fun j hj1 hj2 => ?_) ?_ (hF.tr FrX.put)
      · by_cases c : j = k
        · rw [c, up2_s]
        · rw [up2_k c]
          exact ha j (by omega)
      · rw [up2_k (by omega)]
        exact hb j (by omega) hj2
      · rw [up2_i (by omega)]
        exact hc
  change aw 0 [some (.inr (.inr r)), some (.inl (b : Int)), some (.inl (D : Int)), none, none, none] [] M0
  refine run 60 [5] _ _ _ _ ?_
  refine And.intro ?_ trivial
  have := loop (nd v) 0 M0 none (by omega) (fun j hj => absurd hj (Nat.not_lt_zero j)) (fun j _ hj => hv.2 j hj) h1 (FrX.rf _ _)
  rw [cyH_0] at this
  exact this
theorem imX5_timesPlus {l : Launch} {Z : ZT} (hZ : ZOk Z) : Impl l Z yX5_timesPlus cX5_timesPlus 6 none 1 c_timesPlus := mkImpl (rt := 0) (CL := []) hZ.1 hZ.2.1 (by decide +kernel) kX5_timesPlus fwX5 iwX5 lwX5 trivial (Nat.le_of_ble_eq_true rfl) (fun q h => absurd h List.not_mem_nil) ((v_timesPlus _))
theorem gX6_32 {l : Launch} {Z : ZT} (hZ : ZOk Z) {d : Nat} (hd : 2 ≤ d) : CallI l Z RX6 d (32, some 5, c_timesPlus) := fun p e s m args below meth c Q cc nL x0 X => callOk_V X (imX5_timesPlus hZ) (by decide) rfl mlX6_32 iw_yX5_timesPlus vw_yX5_timesPlus nw_RX5 cw_yX5_timesPlus ⟨by decide +kernel, by decide +kernel, by decide +kernel⟩ ⟨hd, by decide⟩
def c_divideBy : Call := ⟨Nat × Nat × Nat, 2, (fun (r, b, v) vs M => vs = [.inr (.inr r), .inl (b : Int)] ∧ isRw r ∧ 2 ≤ b ∧ b ≤ 36 ∧ XR M r v ∧ nd v ≤ 130), .inr (fun (r, b, v) _ M x M' => x = ((v % b : Nat) : Int) ∧ XR M' r (v / b) ∧ FrX M M' r)⟩
theorem v_divideBy (n : Nn) : Ver tX5_divideBy (fdX5, icX5, lcX5, [(25, some 5, c_trim)]) 1 5 n c_divideBy := by
  rintro ⟨r, b, V⟩ vs M0 ⟨rfl, hr, b2, b36, hv, hn⟩ aw run
  have hl := hr.ln n
  have h1 : M0 r 1 = (nd V : Int) := hv.1
  have bp : 0 < b := by omega
  have hlt : V / b < 32768 ^ nd V := Nat.lt_of_le_of_lt (Nat.div_le_self _ _) (nd_lt V)
  have inner : ∀ (k : Nat) (M' : Mem) (o4 : Option AV), k ≤ nd V → (∀ j, k ≤ j → j < nd V → M' (r + 1) j = (dg (V / b) j : Int)) → (∀ j, j < k → M' (r + 1) j = (dg V j : Int)) → M' r 1 = (nd V : Int) → FrX M0 M' r → aw 15 [some (.inr (.inr r)), some (.inl (b : Int)), some (.inl ((V / 32768 ^ k % b : Nat) : Int)), some (.inl ((k : Int) - 1)), o4] [] M' := by
    intro k
    induction k with
    | zero =>
      intro M' o4 hk h3 h4 h5 hF
      have e0 : V / 32768 ^ 0 % b = V % b := by rw [Nat.pow_zero, Nat.div_one]
      rw [e0]
      have hd : ∀ j, j < nd V → M' (r + 1) j = (dg (V / b) j : Int) := fun j hj => h3 j (Nat.zero_le _) hj
      refine run 60 [15] _ _ _ _ ?_
      refine And.intro ⟨⟨by omega, by omega⟩, ⟨by omega, by omega⟩⟩ (And.intro (fun _ => ?_) (fun c2 => absurd c2 (by omega)))
      refine And.intro hr.kd ?_
      conv => whnf
      rw [h5]
      refine And.intro hr.kd ⟨(r, nd V, V / b), ⟨rfl, hr, hn, hlt, hd⟩, ?_⟩
      rintro M3 rfl
      exact Or.inl ⟨rfl, XR.fix hd hlt, hF.tr FrX.len⟩
    | succ k ihk =>
      intro M' o4 hk h3 h4 h5 hF
      have hr' := Nat.mod_lt (V / 32768 ^ (k + 1)) bp
      have hg := dg_lt V k
      obtain ⟨d1, d2⟩ := dv_dg (v := V) (k := k) bp
      generalize V / 32768 ^ (k + 1) % b = s at *
      rw [show (((k + 1 : Nat) : Int) - 1) = (k : Int) by omega]
      refine run 60 [15] _ _ _ _ ?_
      refine And.intro ⟨⟨by omega, by omega⟩, ⟨by omega, by omega⟩⟩ (And.intro (fun c1 => absurd c1 (by omega)) (fun _ => ?_))
      refine And.intro ⟨by omega, by omega⟩ (And.intro hr.kd (And.intro ⟨hr.ka, by omega, by omega⟩ ?_))
      conv => whnf
      have e15 : (s : Int) * 2 ^ ((15 : Int)).toNat + (dg V k : Int) = ((s * 32768 + dg V k : Nat) : Int) := by
        rw [show ((2 : Int) ^ ((15 : Int)).toNat) = 32768 by decide]
        omega
      rw [Int.toNat_natCast, h4 k (by omega), e15]
      refine And.intro hr.kd (And.intro ⟨by omega, by omega, ⟨by omega, by omega⟩, ⟨by omega, by omega⟩⟩ (And.intro ⟨hr.ka, by omega, by omega⟩ (And.intro ⟨by omega, by omega, ⟨by omega, by omega⟩, ⟨by omega, by omega⟩⟩ (And.intro ?_ trivial))))
      rw [← Int.natCast_ediv, ← Int.natCast_emod, d1, d2, Int.toNat_natCast]
      refine ihk _ _ (by omega) (fun j hj1 hj2 => ?_) (fun j hj => ?_) ?_ (hF.tr FrX.put)
      · by_cases cj : j = k
        · rw [cj, up2_s]
        · rw [up2_k cj]
          exact h3 j (by omega) hj2
      · rw [up2_k (by omega)]
        exact h4 j (by omega)
      · rw [up2_i (by omega)]
        exact h5
  change aw 0 [some (.inr (.inr r)), some (.inl (b : Int)), none, none, none] [] M0
  refine run 60 [15] _ _ _ _ ?_
  refine And.intro ⟨⟨by omega, by omega⟩, ⟨by omega, by omega⟩⟩ (And.intro (fun _ => ?_) (fun c2 => absurd c2 (by omega)))
  refine And.intro hr.kd (And.intro ?_ trivial)
  have := inner (nd V) M0 none (Nat.le_refl _) (fun j hj1 hj2 => by omega) (fun j hj => hv.2 j hj) h1 (FrX.rf _ _)
  rw [Nat.div_eq_of_lt (nd_lt V), Nat.zero_mod] at this
  rw [h1]
  exact this
theorem imX5_divideBy {l : Launch} {Z : ZT} (hZ : ZOk Z) : Impl l Z yX5_divideBy cX5_divideBy 5 (some .int) 2 c_divideBy := mkImpl (rt := 1) (CL := [(25, some 5, c_trim)]) hZ.1 hZ.2.1 (by decide +kernel) kX5_divideBy fwX5 iwX5 lwX5 trivial (Nat.le_of_ble_eq_true rfl) (List.forall_mem_cons.mpr ⟨gX5_25 hZ (by decide), fun q h => absurd h List.not_mem_nil⟩) ((v_divideBy _))
theorem gX3_19 {l : Launch} {Z : ZT} (hZ : ZOk Z) {d : Nat} (hd : 3 ≤ d) : CallI l Z RX3 d (19, some 5, c_divideBy) := fun p e s m args below meth c Q cc nL x0 X => callOk_V X (imX5_divideBy hZ) (by decide) rfl mlX3_19 iw_yX5_divideBy vw_yX5_divideBy nw_RX5 cw_yX5_divideBy ⟨by decide +kernel, by decide +kernel, by decide +kernel⟩ ⟨hd, by decide⟩
def c_range : Call := ⟨Int × Int × Int, 3, (fun (l, f, t) vs _ => vs = [.inl l, .inl f, .inl t] ∧ inR l ∧ inR f ∧ inR t ∧ 0 ≤ f ∧ f ≤ t ∧ t ≤ l), .inl (fun _ _ M M' => M' = M)⟩
theorem v_range (n : Nn) : Ver tJ7_rangeCheck_23922 (fdJ7, icJ7, lcJ7, []) 0 3 n c_range := by
  rintro ⟨l, f, t⟩ vs M0 ⟨rfl, hl, hf, ht, h1, h2, h3⟩ aw run
  unfold inR at hl hf ht
  change aw 0 [some (.inl l), some (.inl f), some (.inl t)] [] M0
  refine run 20 [] _ _ _ _ ?_
  refine And.intro ⟨⟨by omega, by omega⟩, ⟨by omega, by omega⟩⟩ (And.intro (fun _ => ?_) (fun c2 => absurd c2 (by omega)))
  refine And.intro ⟨⟨by omega, by omega⟩, ⟨by omega, by omega⟩⟩ (And.intro (fun _ => ?_) (fun c2 => absurd c2 (by omega)))
  refine And.intro ⟨⟨by omega, by omega⟩, ⟨by omega, by omega⟩⟩ (And.intro (fun _ => ?_) (fun c2 => absurd c2 (by omega)))
  exact Or.inl rfl
theorem imJ7_rangeCheck_23922 {l : Launch} {Z : ZT} (hZ : ZOk Z) : Impl l Z yJ7_rangeCheck_23922 cJ7_rangeCheck_23922 3 none 1 c_range := mkImplF (rt := 0) (CL := []) hZ.1 hZ.2.1 (by decide +kernel) kJ7_rangeCheck_23922 fwJ7 iwJ7 lwJ7 trivial (Nat.le_of_ble_eq_true rfl) (fun q h => absurd h List.not_mem_nil) ((v_range _))
theorem gJ7_13 {l : Launch} {Z : ZT} (hZ : ZOk Z) {d : Nat} (hd : 2 ≤ d) : CallI l Z RJ7 d (13, none, c_range) := fun p e s m args below meth c Q cc nL x0 X => callOk_S X (imJ7_rangeCheck_23922 hZ) mlJ7_13 sw_yJ7_rangeCheck_23922 nw_RJ7 cw_yJ7_rangeCheck_23922 ⟨by decide +kernel, by decide +kernel, by decide +kernel⟩ ⟨hd, by decide⟩
def c_fill (n : Nn) : Call := ⟨Nat × Nat × Nat × Int, 4, (fun (a, f, t, x) vs _ => vs = [.inr (.inr a), .inl (f : Int), .inl (t : Int), .inl x] ∧ kdF a = 100 ∧ f ≤ t ∧ t ≤ lnF n a ∧ lnF n a < 2147483648), .inl (fun (a, f, t, x) _ M M' => M' = va_up M a (fun i => if f ≤ i ∧ i < t then x else M a i))⟩
theorem v_fill (n : Nn) : Ver tJ7_fill_fda19 (fdJ7, icJ7, lcJ7, [(13, none, c_range)]) 0 5 n (c_fill n) := by
  rintro ⟨a, f, t, x⟩ vs M0 ⟨rfl, ha, h1, h2, h3⟩ aw run
  have loop : ∀ (m i : Nat), i + m = t → f ≤ i → aw 10 [some (.inr (.inr a)), some (.inl (f : Int)), some (.inl (t : Int)), some (.inl x), some (.inl (i : Int))] [] (va_up M0 a (fun j => if f ≤ j ∧ j < i then x else M0 a j)) := by
    intro m
    induction m with
    | zero =>
      intro i hi hf
      obtain rfl : i = t := by omega
      refine run 30 [10] _ _ _ _ ?_
      refine And.intro ⟨⟨by omega, by omega⟩, ⟨by omega, by omega⟩⟩ (And.intro (fun _ => ?_) (fun c2 => absurd c2 (by omega)))
      exact Or.inl rfl
    | succ m ih =>
      intro i hi hf
      refine run 30 [10] _ _ _ _ ?_
      refine And.intro ⟨⟨by omega, by omega⟩, ⟨by omega, by omega⟩⟩ (And.intro (fun c1 => absurd c1 (by omega)) (fun _ => ?_))
      refine And.intro ⟨ha, by omega, by omega⟩ (And.intro ?_ trivial)
      have e : up2 (va_up M0 a (fun j => if f ≤ j ∧ j < i then x else M0 a j)) a (i : Int).toNat x = va_up M0 a (fun j => if f ≤ j ∧ j < i + 1 then x else M0 a j) := by
        rw [Int.toNat_natCast]
        funext o k
        by_cases c : o = a
        · subst c
          rw [va_up_self]
          by_cases d : k = i
          · subst d
            rw [up2_s, if_pos (by omega)]
          · rw [up2_k d, va_up_self]
            by_cases e : f ≤ k ∧ k < i
            · rw [if_pos e, if_pos (by omega)]
            · rw [if_neg e, if_neg (by omega)]
        · rw [up2_i c, va_up_ne _ _ c, va_up_ne _ _ c]
      rw [e, show (i : Int) + 1 = ((i + 1 : Nat) : Int) by omega]
      exact ih (i + 1) (by omega) (by omega)
  change aw 0 [some (.inr (.inr a)), some (.inl (f : Int)), some (.inl (t : Int)), some (.inl x), none] [] M0
  refine run 30 [10] _ _ _ _ ?_
  refine And.intro ha ⟨((lnF n a : Int), (f : Int), (t : Int)), ⟨rfl, ⟨by omega, by omega⟩, ⟨by omega, by omega⟩, ⟨by omega, by omega⟩, by omega, by omega, by omega⟩, ?_⟩
  rintro M1 rfl
  refine And.intro ?_ trivial
  have := loop (t - f) f (by omega) (Nat.le_refl _)
  have e : va_up M1 a (fun j => if f ≤ j ∧ j < f then x else M1 a j) = M1 := by
    funext o k
    by_cases c : o = a
    · subst c
      rw [va_up_self, if_neg (by omega)]
    · rw [va_up_ne _ _ c]
  rw [e] at this
  exact this
theorem imJ7_fill_fda19 {l : Launch} {Z : ZT} (hZ : ZOk Z) : Impl l Z yJ7_fill_fda19 cJ7_fill_fda19 5 none 2 (c_fill (zN Z)) := mkImplF (rt := 0) (CL := [(13, none, c_range)]) hZ.1 hZ.2.1 (by decide +kernel) kJ7_fill_fda19 fwJ7 iwJ7 lwJ7 trivial (Nat.le_of_ble_eq_true rfl) (List.forall_mem_cons.mpr ⟨gJ7_13 hZ (by decide), fun q h => absurd h List.not_mem_nil⟩) ((v_fill (zN Z)))
theorem gX0_61 {l : Launch} {Z : ZT} (hZ : ZOk Z) {d : Nat} (hd : 3 ≤ d) : CallI l Z RX0 d (61, none, (c_fill (zN Z))) := fun p e s m args below meth c Q cc nL x0 X => callOk_S X (imJ7_fill_fda19 hZ) mlX0_61 sw_yJ7_fill_fda19 nw_RJ7 cw_yJ7_fill_fda19 ⟨by decide +kernel, by decide +kernel, show (parseMethodDescriptor yJ7_fill_fda19.desc).map (fun d => d.parameters.length) = some 4 by decide +kernel⟩ ⟨hd, by decide⟩
theorem gX1_86 {l : Launch} {Z : ZT} (hZ : ZOk Z) {d : Nat} (hd : 3 ≤ d) : CallI l Z RX1 d (86, none, (c_fill (zN Z))) := fun p e s m args below meth c Q cc nL x0 X => callOk_S X (imJ7_fill_fda19 hZ) mlX1_86 sw_yJ7_fill_fda19 nw_RJ7 cw_yJ7_fill_fda19 ⟨by decide +kernel, by decide +kernel, show (parseMethodDescriptor yJ7_fill_fda19.desc).map (fun d => d.parameters.length) = some 4 by decide +kernel⟩ ⟨hd, by decide⟩
