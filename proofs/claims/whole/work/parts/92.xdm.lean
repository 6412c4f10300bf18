/-! ===== the class: divmod ===== -/
def c_isLN (n : Nn) : Call := ⟨RS × Int, 2, (fun (q, h) vs M => vs = [.inr (.inr 0), .inl h] ∧ inR h ∧ XN n M 0 q), .inr (fun (q, h) _ M x M' => ((x = 1 ∧ (h = -1 ∨ Lv n q h)) ∨ (x = 0 ∧ ¬ (h = -1 ∨ Lv n q h))) ∧ M' = M)⟩
theorem v_isLN (n : Nn) : Ver tX7_isLiveOrNone (fdX7, icX7, lcX7, [(100, some 1, c_isLiveX n)]) 2 2 n (c_isLN n) := by
  rintro ⟨q, h⟩ vs M0 ⟨rfl, ih, R⟩ aw run
  have ih0 := ih
  unfold inR at ih0
  change aw 0 [some (.inr (.inr 0)), some (.inl h)] [] M0
  refine run 60 [] _ _ _ _ ?_
  refine And.intro ⟨⟨by omega, by omega⟩, ⟨by omega, by omega⟩⟩ (And.intro (fun c1 => ?_) (fun c2 => ?_))
  · exact And.intro (Or.inr rfl) (Or.inl ⟨Or.inl ⟨rfl, Or.inl c1⟩, rfl⟩)
  refine And.intro rfl (And.intro rfl ⟨(0, q, h), ⟨rfl, ih, R⟩, ?_⟩)
  rintro x M0 ⟨⟨rfl, hh⟩ | ⟨rfl, hh⟩, rfl⟩
  · refine And.intro ⟨⟨by omega, by omega⟩, ⟨by omega, by omega⟩⟩ (And.intro (fun c1 => absurd c1 (by omega)) (fun _ => ?_))
    exact And.intro (Or.inr rfl) (Or.inl ⟨Or.inl ⟨rfl, Or.inr hh⟩, rfl⟩)
  · refine And.intro ⟨⟨by omega, by omega⟩, ⟨by omega, by omega⟩⟩ (And.intro (fun _ => ?_) (fun c2 => absurd c2 (by omega)))
    exact And.intro (Or.inl rfl) (Or.inl ⟨Or.inr ⟨rfl, fun z => z.elim c2 hh⟩, rfl⟩)
theorem imX7_isLiveOrNone {l : Launch} {Z : ZT} (hZ : ZOk Z) : Impl l Z yX7_isLiveOrNone cX7_isLiveOrNone 2 (some .boolean) 2 (c_isLN (zN Z)) := mkImpl (rt := 2) (CL := [(100, some 1, (c_isLiveX (zN Z)))]) hZ.1 hZ.2.1 (by decide +kernel) kX7_isLiveOrNone fwX7 iwX7 lwX7 trivial (Nat.le_of_ble_eq_true rfl) (List.forall_mem_cons.mpr ⟨gX7_100 hZ (by decide), fun q h => absurd h List.not_mem_nil⟩) ((v_isLN (zN Z)))
theorem gX7_186 {l : Launch} {Z : ZT} (hZ : ZOk Z) {d : Nat} (hd : 3 ≤ d) : CallI l Z RX7 d (186, some 7, (c_isLN (zN Z))) := fun p e s m args below meth c Q cc nL x0 X => callOk_V X (imX7_isLiveOrNone hZ) (by decide) rfl mlX7_186 iw_yX7_isLiveOrNone vw_yX7_isLiveOrNone nw_RX7 cw_yX7_isLiveOrNone ⟨by decide +kernel, by decide +kernel, show (parseMethodDescriptor yX7_isLiveOrNone.desc).map (fun d => d.parameters.length) = some 1 by decide +kernel⟩ ⟨hd, by decide⟩
/-- a run for a number of k limbs that handle x (none: -1) will get, or none is wanted -/
def RfX (n : Nn) (M M' : Mem) (tk : Nat) (q : RS) (x : Int) (v : Nat) (r : Int) : Prop := ∃ (tk1 : Nat) (q1 : RS), XN n M' tk1 q1 ∧ FXN M M' ∧ (∀ h, h < n.1 → q1.2.1 h = q.2.1 h) ∧ q1.2.2.2 = q.2.2.2 ∧ ((r = -4 ∧ tk1 = 0 ∧ ∀ f, tcR n tk q (kqF q x v) f = (-4, q1)) ∨ (r ≠ -4 ∧ tk ≤ tk1 ∧ tk1 ≤ tk + 1 ∧ (∀ f, tcR n tk q (kqF q x v) f = f tk1 q1) ∧ (∀ t, t ≠ n.1 + tk → q1.2.1 t = q.2.1 t) ∧ (x = -1 → kqF q x v = 0 ∧ r = -1) ∧ (x ≠ -1 → ∃ ρ : Nat, r = (ρ : Int) ∧ 0 < q1.2.1 ρ ∧ q1.2.1 ρ ≤ 64 ∧ (nd v : Int) ≤ q1.2.1 ρ ∧ ρ < n.1 + 5 ∧ ((kqF q x v = 0 ∧ ρ = x.toNat) ∨ (0 < kqF q x v ∧ ρ = n.1 + tk ∧ tk1 = tk + 1)))))
theorem XN.q0 {n : Nn} {M : Mem} {tk : Nat} {q : RS} (R : XN n M tk q) : XN n M tk (q.1, q.2.1, q.2.2.1 + 0, q.2.2.2) := R.cong (fun t ht => ⟨rfl, fun _ => rfl⟩) (Int.add_zero _) (fun _ _ _ => rfl)
theorem tcR_z {n : Nn} {tk : Nat} {q : RS} {k : Int} (h : k ≤ 0) (f : Nat → RS → Int × RS) : tcR n tk q k f = f tk (q.1, q.2.1, q.2.2.1 + 0, q.2.2.2) := by
  unfold tcR tkR tkF
  rw [if_pos h]
  rfl
theorem Rf_none {n : Nn} {M : Mem} {tk v : Nat} {q : RS} (R : XN n M tk q) : RfX n M M tk q (-1) v (-1) := by
  have e : kqF q (-1) v = 0 := if_neg (fun z => z.1 rfl)
  exact ⟨tk, _, R.q0, FXN.rf _, fun _ _ => rfl, rfl, Or.inr ⟨by decide, Nat.le_refl _, by omega, fun f => by rw [e]; exact tcR_z (Int.le_refl _) f, fun _ _ => rfl, fun _ => ⟨e, rfl⟩, fun z => absurd rfl z⟩⟩
theorem Rf_run {n : Nn} {M M' : Mem} {tk v h : Nat} {q : RS} {x : Int} (R : XN n M tk q) (h4 : tk ≤ 4) (h1 : h < n.1) (h2 : 0 < q.2.1 h) (hv : nd v ≤ 64) (p : ((nd v : Int) ≤ q.2.1 h ∧ x = (h : Int) ∧ M' = M) ∨ (q.2.1 h < (nd v : Int) ∧ TkX n M M' tk q (nd v : Int) x)) : RfX n M M' tk q (h : Int) v x := by
  have A := R.at h1 h2
  have ht : (h : Int).toNat = h := Int.toNat_natCast h
  rcases p with ⟨p1, rfl, rfl⟩ | ⟨p1, q1, ho, hr, hvl, hF⟩
  · have e : kqF q (h : Int) v = 0 := if_neg (fun z => by have := z.2; rw [ht] at this; omega)
    exact ⟨tk, _, R.q0, FXN.rf _, fun _ _ => rfl, rfl, Or.inr ⟨by omega, Nat.le_refl _, by omega, fun f => by rw [e]; exact tcR_z (Int.le_refl _) f, fun _ _ => rfl, fun z => by omega, fun _ => ⟨h, rfl, h2, A.2.2.2.2.2.2.1, p1, by omega, Or.inl ⟨e, ht.symm⟩⟩⟩⟩
  · have e : kqF q (h : Int) v = (nd v : Int) := if_pos ⟨by omega, by rw [ht]; omega⟩
    rcases ho with ⟨rfl, ht1, R1, hk⟩ | ⟨rfl, ht1, R1⟩
    · refine ⟨tk + 1, q1, R1, hF, hr, hvl, Or.inr ⟨by omega, by omega, Nat.le_refl _, fun f => ?_, fun t hne => ?_, fun z => by omega, fun _ => ⟨n.1 + tk, rfl, by omega, by omega, by omega, by omega, Or.inr ⟨by omega, rfl, rfl⟩⟩⟩⟩
      · rw [e]
        unfold tcR
        rw [ht1]
        rfl
      · have t1 : (tkF n.1 n.2.1 tk q.1 q.2.1 (nd v : Int)).1 = 1 := congrArg (·.1) ht1
        have t2 : q1.2.1 = (tkF n.1 n.2.1 tk q.1 q.2.1 (nd v : Int)).2.2.1 := (congrArg (·.2.2.2.1) ht1).symm
        rw [t2]
        exact tkF_rm2 t1 hne
    · refine ⟨0, q1, R1, hF, hr, hvl, Or.inl ⟨rfl, rfl, fun f => ?_⟩⟩
      rw [e]
      unfold tcR
      rw [ht1]
      rfl
theorem gv_0 {n : Nn} {M : Mem} {q : RS} {w : Nat → Nat} (R : XN n M 0 (drR n q)) (hw : ∀ t, t < n.1 → w t = q.2.2.2 t) : XN n M 0 (gvR n q (fun t => t) w) := R.cong (fun t ht => ⟨rfl, fun _ => rfl⟩) rfl (fun t ht _ => hw t ht)
theorem gv_1 {n : Nn} {M : Mem} {q : RS} {h ρ v : Nat} {σ : Nat → Nat} {w : Nat → Nat} (R : XN n M 0 (drR n (stlR q h ρ v))) (s1 : σ h = ρ) (s2 : ∀ t, t ≠ h → σ t = t) (ho : ρ = h ∨ n.1 ≤ ρ) (hw : ∀ t, t < n.1 → w t = va_up q.2.2.2 h v t) : XN n M 0 (gvR n q σ w) := by
  refine R.cong (fun t ht => ⟨?_, fun z => ?_⟩) rfl (fun t ht _ => hw t ht)
  · show (if t < n.1 then q.2.1 (σ t) else 0) = if t < n.1 then (if t = h then q.2.1 ρ else if t = ρ then 0 else q.2.1 t) else 0
    by_cases c : t < n.1
    · rw [if_pos c, if_pos c]
      by_cases d : t = h
      · rw [if_pos d, d, s1]
      · rw [if_neg d, if_neg (by omega), s2 t d]
    · rw [if_neg c, if_neg c]
  · show q.1 (σ t) = va_up q.1 h (q.1 ρ) t
    by_cases d : t = h
    · rw [d, va_up_self, s1]
    · rw [va_up_ne _ _ d, s2 t d]
theorem gv_2 {n : Nn} {M : Mem} {q : RS} {h ρ v g τ u : Nat} {σ : Nat → Nat} {w : Nat → Nat} (R : XN n M 0 (drR n (stlR (stlR q h ρ v) g τ u))) (hg : h ≠ g) (hh : h < n.1) (hg1 : g < n.1) (hne : ρ ≠ τ) (s1 : σ h = ρ) (s2 : σ g = τ) (s3 : ∀ t, t ≠ h → t ≠ g → σ t = t) (ho : ρ = h ∨ n.1 ≤ ρ) (ho2 : τ = g ∨ n.1 ≤ τ) (hw : ∀ t, t < n.1 → w t = va_up (va_up q.2.2.2 h v) g u t) : XN n M 0 (gvR n q σ w) := by
  refine R.cong (fun t ht => ⟨?_, fun z => ?_⟩) rfl (fun t ht _ => hw t ht)
  · show (if t < n.1 then q.2.1 (σ t) else 0) = if t < n.1 then (if t = g then (if τ = h then q.2.1 ρ else if τ = ρ then 0 else q.2.1 τ) else if t = τ then 0 else (if t = h then q.2.1 ρ else if t = ρ then 0 else q.2.1 t)) else 0
    by_cases c : t < n.1
    · rw [if_pos c, if_pos c]
      by_cases d : t = g
      · rw [if_pos d, d, s2, if_neg (by omega), if_neg (by omega)]
      · rw [if_neg d, if_neg (by omega)]
        by_cases f : t = h
        · rw [if_pos f, f, s1]
        · rw [if_neg f, if_neg (by omega), s3 t f d]
    · rw [if_neg c, if_neg c]
  · show q.1 (σ t) = va_up (va_up q.1 h (q.1 ρ)) g (va_up q.1 h (q.1 ρ) τ) t
    by_cases d : t = g
    · rw [d, va_up_self, s2, va_up_ne _ _ (by omega)]
    · rw [va_up_ne _ _ d]
      by_cases f : t = h
      · rw [f, va_up_self, s1]
      · rw [va_up_ne _ _ f, s3 t f d]
def brF (n : Nn) (tk : Nat) (q : RS) (x y : Int) (A B : Nat) : Int × RS := tcR n tk q (kqF q x A) (fun t4 q4 => tcR n t4 q4 (kqF q y B) (fun _ q5 => ((nd A : Int), gvR n q5 (sgF (kqF q y B) (sgF (kqF q x A) (fun t => t) x (n.1 + tk)) y (n.1 + t4)) (vlF y (vlF x q.2.2.2 A) B))))
/-- bringBoth(x, y) -/
def c_bring (n : Nn) : Call := ⟨Nat × RS × Int × Int × Nat × Nat, 3, (fun (tk, q, x, y, A, B) vs M => vs = [.inr (.inr 0), .inl x, .inl y] ∧ inR x ∧ inR y ∧ XN n M tk q ∧ tk ≤ 3 ∧ (x = -1 ∨ Lv n q x) ∧ (y = -1 ∨ Lv n q y) ∧ ¬ (x = y ∧ x ≠ -1) ∧ XR M 7 A ∧ nd A ≤ 64 ∧ XR M 9 B ∧ nd B ≤ 64), .inr (fun (tk, q, x, y, A, B) _ M r M' => r = (brF n tk q x y A B).1 ∧ XN n M' 0 (brF n tk q x y A B).2 ∧ FXN M M')⟩
set_option maxHeartbeats 4000000 in
theorem v_bring (n : Nn) : Ver tX7_bringBoth (fdX7, icX7, lcX7, [(205, some 1, c_runFor n), (208, some 1, c_settle n), (212, some 1, c_drop n)]) 1 7 n (c_bring n) := by
  rintro ⟨tk, q, x, y, A, B⟩ vs M0 ⟨rfl, ix, iy, R, h3, hx, hy, hxy, hA, nA, hB, nB⟩ aw run
  have bn := R.n24
  unfold inR at ix iy
  have w7 : isRw 7 := by decide
  have w9 : isRw 9 := by decide
  have end_ : ∀ (M : Mem) (tk5 : Nat) (q5 : RS) (F : RS) (o5 o6 : Option AV), XN n M tk5 F → FXN M0 M → XR M 7 A → brF n tk q x y A B = ((nd A : Int), gvR n q5 (sgF (kqF q y B) (sgF (kqF q x A) (fun t => t) x (n.1 + tk)) y (n.1 + (if 0 < kqF q x A then tk + 1 else tk))) (vlF y (vlF x q.2.2.2 A) B)) → (∀ M', XN n M' 0 (drR n F) → XN n M' 0 (gvR n q5 (sgF (kqF q y B) (sgF (kqF q x A) (fun t => t) x (n.1 + tk)) y (n.1 + (if 0 < kqF q x A then tk + 1 else tk))) (vlF y (vlF x q.2.2.2 A) B))) → aw 117 [some (.inr (.inr 0)), some (.inl x), some (.inl y), some (.inr (.inr 7)), some (.inr (.inr 9)), o5, o6] [] M := by
    intro M tk5 q5 F o5 o6 RM fM hAM e hc
    refine run 60 [] _ _ _ _ ?_
    refine And.intro rfl (And.intro rfl ⟨(tk5, F), ⟨rfl, RM⟩, ?_⟩)
    rintro M9 ⟨R9, hF9⟩
    have h7 : M9 7 1 = (nd A : Int) := (hF9.keep w7 hAM).1
    refine And.intro rfl (Or.inl ?_)
    show M9 7 1 = (brF n tk q x y A B).1 ∧ XN n M9 0 (brF n tk q x y A B).2 ∧ FXN M0 M9
    rw [e]
    exact ⟨h7, hc M9 R9, fM.tr hF9⟩
  -- the quotient's run
  have s38 : ∀ (r : Int) (M1 : Mem), RfX n M0 M1 tk q x A r → aw 38 [some (.inr (.inr 0)), some (.inl x), some (.inl y), some (.inr (.inr 7)), some (.inr (.inr 9)), none, none] [.inl r] M1 := by
    rintro r M1 ⟨tk1, q1, R1, hF1, rk1, vk1, ho⟩
    have b1 := R1.n24
    have hA1 := hF1.keep w7 hA
    have hB1 := hF1.keep w9 hB
    rcases ho with ⟨rfl, rfl, hu1⟩ | ⟨hr, ht0, ht1, hu1, rm1, hn1, hs1⟩
    · refine run 60 [] _ _ _ _ ?_
      refine And.intro ⟨⟨by omega, by omega⟩, ⟨by omega, by omega⟩⟩ (And.intro (fun c1 => absurd c1 (by omega)) (fun _ => ?_))
      refine Or.inl ?_
      show -4 = (brF n tk q x y A B).1 ∧ XN n M1 0 (brF n tk q x y A B).2 ∧ FXN M0 M1
      rw [show brF n tk q x y A B = (-4, q1) from hu1 _]
      exact ⟨rfl, R1, hF1⟩
    have e1 := hu1 (fun t4 q4 => tcR n t4 q4 (kqF q y B) (fun _ q5 => ((nd A : Int), gvR n q5 (sgF (kqF q y B) (sgF (kqF q x A) (fun t => t) x (n.1 + tk)) y (n.1 + t4)) (vlF y (vlF x q.2.2.2 A) B))))
    change brF n tk q x y A B = _ at e1
    have kq1 : kqF q1 y B = kqF q y B := by
      unfold kqF
      rcases hy with rfl | hy
      · rw [if_neg (fun z => z.1 rfl), if_neg (fun z => z.1 rfl)]
      · rw [rk1 y.toNat (by have := hy.1; have := hy.2.1; omega)]
    have et1 : tk1 = if 0 < kqF q x A then tk + 1 else tk := by
      by_cases c : x = -1
      · have := (hn1 c).1
        rw [if_neg (by omega)]
        have e := hu1 (fun t _ => ((t : Int), q))
        rw [this, tcR_z (Int.le_refl _)] at e
        have := congrArg (·.1) e
        dsimp only at this
        omega
      · obtain ⟨ρ, -, -, -, -, -, z | z⟩ := hs1 c
        · rw [if_neg (by omega)]
          have e := hu1 (fun t _ => ((t : Int), q))
          rw [z.1, tcR_z (Int.le_refl _)] at e
          have := congrArg (·.1) e
          dsimp only at this
          omega
        · rw [if_pos z.1]
          exact z.2.2
    -- the rest's run
    have s72 : ∀ (r2 : Int) (M2 : Mem), RfX n M1 M2 tk1 q1 y B r2 → aw 72 [some (.inr (.inr 0)), some (.inl x), some (.inl y), some (.inr (.inr 7)), some (.inr (.inr 9)), some (.inl r), none] [.inl r2] M2 := by
      rintro r2 M2 ⟨tk2, q2, R2, hF2, rk2, vk2, ho2⟩
      have b2 := R2.n24
      have hA2 := hF2.keep w7 hA1
      have hB2 := hF2.keep w9 hB1
      rw [kq1] at ho2
      rcases ho2 with ⟨rfl, rfl, hu2⟩ | ⟨hr2, hu0, ht2, hu2, rm2, hn2, hs2⟩
      · refine run 60 [] _ _ _ _ ?_
        refine And.intro ⟨⟨by omega, by omega⟩, ⟨by omega, by omega⟩⟩ (And.intro (fun c1 => absurd c1 (by omega)) (fun _ => ?_))
        refine Or.inl ?_
        show -4 = (brF n tk q x y A B).1 ∧ XN n M2 0 (brF n tk q x y A B).2 ∧ FXN M0 M2
        rw [show brF n tk q x y A B = (-4, q2) from e1.trans (hu2 _)]
        exact ⟨rfl, R2, hF1.tr hF2⟩
      have e2 := e1.trans (hu2 _)
      rw [et1] at e2
      have vk : q2.2.2.2 = q.2.2.2 := vk2.trans vk1
      have hrr2 : -5 ≤ r2 ∧ r2 ≤ 100 := by
        by_cases c : y = -1
        · have := (hn2 c).2
          omega
        · obtain ⟨ρ, z1, -, -, -, z2, -⟩ := hs2 c
          omega
      have f2 : FXN M0 M2 := hF1.tr hF2
      by_cases cx : x = -1
      · subst cx
        have kx := (hn1 rfl).1
        clear hs1
        by_cases cy : y = -1
        · subst cy
          have ky := (hn2 rfl).1
          clear hs2 hn2
          refine run 60 [117] _ _ _ _ ?_
          refine And.intro ⟨⟨by omega, by omega⟩, ⟨by omega, by omega⟩⟩ (And.intro (fun _ => ?_) (fun c2 => absurd c2 (by omega)))
          refine And.intro ⟨⟨by omega, by omega⟩, ⟨by omega, by omega⟩⟩ (And.intro (fun _ => ?_) (fun c2 => absurd c2 (by omega)))
          refine And.intro ⟨⟨by omega, by omega⟩, ⟨by omega, by omega⟩⟩ (And.intro (fun _ => ?_) (fun c2 => absurd c2 (by omega)))
          refine And.intro ?_ trivial
          refine end_ M2 tk2 q2 q2 _ _ R2 f2 hA2 e2 (fun M' RM' => ?_)
          rw [kx, ky]
          exact gv_0 RM' (fun t ht => by rw [vk]; rfl)
        · obtain ⟨τ, rfl, t1, t2, t3, t4, t5⟩ := hs2 cy
          clear hs2 hn2
          obtain ⟨g, rfl, g1, g2⟩ := (hy.resolve_left cy).nat
          rw [Int.toNat_natCast] at t5
          refine run 60 [117] _ _ _ _ ?_
          refine And.intro ⟨⟨by omega, by omega⟩, ⟨by omega, by omega⟩⟩ (And.intro (fun _ => ?_) (fun c2 => absurd c2 (by omega)))
          refine And.intro ⟨⟨by omega, by omega⟩, ⟨by omega, by omega⟩⟩ (And.intro (fun _ => ?_) (fun c2 => absurd c2 (by omega)))
          refine And.intro ⟨⟨by omega, by omega⟩, ⟨by omega, by omega⟩⟩ (And.intro (fun c1 => absurd c1 (by omega)) (fun _ => ?_))
          refine And.intro rfl (And.intro rfl ⟨(tk2, q2, g, τ, 9, B), ⟨rfl, R2, w9, hB2, g1, t4, t1, t2, by omega, t3⟩, ?_⟩)
          rintro M3 ⟨R3, hF3⟩
          refine And.intro ?_ trivial
          refine end_ M3 tk2 q2 _ _ _ R3 (f2.tr hF3) (hF3.keep w7 hA2) e2 (fun M' RM' => gv_1 RM' ?_ (fun t hne => ?_) (by omega) (fun t ht => ?_))
          · rw [kx]
            unfold sgF
            rw [if_neg (show ¬ (0 : Int) < 0 by omega)]
            rcases t5 with ⟨t5, t6⟩ | ⟨t5, t6, t7⟩
            · rw [if_neg (by omega), t6]
            · rw [if_pos t5, Int.toNat_natCast, va_up_self, if_neg (show ¬ (0 : Int) < 0 by omega), t6, et1, kx, if_neg (show ¬ (0 : Int) < 0 by omega)]
          · rw [kx]
            unfold sgF
            rw [if_neg (show ¬ (0 : Int) < 0 by omega)]
            rcases t5 with ⟨t5, t6⟩ | ⟨t5, t6, t7⟩
            · rw [if_neg (by omega)]
            · rw [if_pos t5, Int.toNat_natCast, va_up_ne _ _ hne]
          · show vlF (g : Int) (vlF (-1) q.2.2.2 A) B t = _
            unfold vlF
            rw [if_neg (by omega), if_pos rfl, Int.toNat_natCast, vk]
      · obtain ⟨ρ, rfl, p1, p2, p3, p4, p5⟩ := hs1 cx
        clear hs1 hn1
        obtain ⟨h, rfl, h1, h2⟩ := (hx.resolve_left cx).nat
        rw [Int.toNat_natCast] at p5
        have ρr : q2.2.1 ρ = q1.2.1 ρ := by
          rcases p5 with ⟨_, p6⟩ | ⟨_, p6, p7⟩
          · exact rk2 ρ (by omega)
          · exact rm2 ρ (by omega)
        rw [← ρr] at p1 p2 p3
        have S1 : ∀ i, sgF (kqF q (h : Int) A) (fun t => t) (h : Int) (n.1 + tk) i = if i = h then ρ else i := by
          intro i
          unfold sgF
          rcases p5 with ⟨p5, p6⟩ | ⟨p5, p6, p7⟩
          · rw [if_neg (by omega)]
            by_cases c : i = h
            · rw [if_pos c, p6, c]
            · rw [if_neg c]
          · rw [if_pos p5, Int.toNat_natCast]
            by_cases c : i = h
            · rw [if_pos c, c, va_up_self, p6]
            · rw [if_neg c, va_up_ne _ _ c]
        by_cases cy : y = -1
        · subst cy
          have ky := (hn2 rfl).1
          clear hs2 hn2
          refine run 60 [117] _ _ _ _ ?_
          refine And.intro ⟨⟨by omega, by omega⟩, ⟨by omega, by omega⟩⟩ (And.intro (fun _ => ?_) (fun c2 => absurd c2 (by omega)))
          refine And.intro ⟨⟨by omega, by omega⟩, ⟨by omega, by omega⟩⟩ (And.intro (fun c1 => absurd c1 (by omega)) (fun _ => ?_))
          refine And.intro rfl (And.intro rfl ⟨(tk2, q2, h, ρ, 7, A), ⟨rfl, R2, w7, hA2, h1, p4, p1, p2, by omega, p3⟩, ?_⟩)
          rintro M3 ⟨R3, hF3⟩
          refine And.intro ⟨⟨by omega, by omega⟩, ⟨by omega, by omega⟩⟩ (And.intro (fun _ => ?_) (fun c2 => absurd c2 (by omega)))
          refine And.intro ?_ trivial
          refine end_ M3 tk2 q2 _ _ _ R3 (f2.tr hF3) (hF3.keep w7 hA2) e2 (fun M' RM' => gv_1 RM' ?_ (fun t hne => ?_) (by omega) (fun t ht => ?_))
          · rw [ky]
            show sgF 0 _ _ _ h = ρ
            unfold sgF
            rw [if_neg (show ¬ (0 : Int) < 0 by omega)]
            have := S1 h
            unfold sgF at this
            rw [this, if_pos rfl]
          · rw [ky]
            show sgF 0 _ _ _ t = t
            unfold sgF
            rw [if_neg (show ¬ (0 : Int) < 0 by omega)]
            have := S1 t
            unfold sgF at this
            rw [this, if_neg hne]
          · show vlF (-1) (vlF (h : Int) q.2.2.2 A) B t = _
            unfold vlF
            rw [if_pos rfl, if_neg (by omega), Int.toNat_natCast, vk]
        · obtain ⟨τ, rfl, t1, t2, t3, t4, t5⟩ := hs2 cy
          clear hs2 hn2
          obtain ⟨g, rfl, g1, g2⟩ := (hy.resolve_left cy).nat
          rw [Int.toNat_natCast] at t5
          have hg : h ≠ g := fun z => hxy ⟨by rw [z], cx⟩
          have ρτ : ρ ≠ τ := by omega
          refine run 60 [117] _ _ _ _ ?_
          refine And.intro ⟨⟨by omega, by omega⟩, ⟨by omega, by omega⟩⟩ (And.intro (fun _ => ?_) (fun c2 => absurd c2 (by omega)))
          refine And.intro ⟨⟨by omega, by omega⟩, ⟨by omega, by omega⟩⟩ (And.intro (fun c1 => absurd c1 (by omega)) (fun _ => ?_))
          refine And.intro rfl (And.intro rfl ⟨(tk2, q2, h, ρ, 7, A), ⟨rfl, R2, w7, hA2, h1, p4, p1, p2, by omega, p3⟩, ?_⟩)
          rintro M3 ⟨R3, hF3⟩
          refine And.intro ⟨⟨by omega, by omega⟩, ⟨by omega, by omega⟩⟩ (And.intro (fun c1 => absurd c1 (by omega)) (fun _ => ?_))
          have τr : (stlR q2 h ρ A).2.1 τ = q2.2.1 τ := by
            show (if τ = h then q2.2.1 ρ else if τ = ρ then 0 else q2.2.1 τ) = _
            rw [if_neg (by omega), if_neg (by omega)]
          refine And.intro rfl (And.intro rfl ⟨(tk2, stlR q2 h ρ A, g, τ, 9, B), ⟨rfl, R3, w9, hF3.keep w9 hB2, g1, t4, by rw [τr]; exact t1, by rw [τr]; exact t2, by omega, by rw [τr]; exact t3⟩, ?_⟩)
          rintro M4 ⟨R4, hF4⟩
          refine And.intro ?_ trivial
          refine end_ M4 tk2 q2 _ _ _ R4 ((f2.tr hF3).tr hF4) (hF4.keep w7 (hF3.keep w7 hA2)) e2 (fun M' RM' => gv_2 RM' hg h1 g1 ρτ ?_ ?_ (fun t n1 n2 => ?_) (by omega) (by omega) (fun t ht => ?_))
          · rcases t5 with ⟨t5, t6⟩ | ⟨t5, t6, t7⟩
            · rw [t5]
              show sgF 0 (sgF (kqF q (h : Int) A) (fun t => t) (h : Int) (n.1 + tk)) _ _ h = ρ
              rw [show ∀ σ y i, sgF 0 σ y i = σ from fun σ y i => if_neg (by omega), S1, if_pos rfl]
            · rw [show ∀ σ y i, sgF (kqF q (g : Int) B) σ y i = va_up σ y.toNat i from fun σ y i => if_pos t5, Int.toNat_natCast, va_up_ne _ _ hg, S1, if_pos rfl]
          · rcases t5 with ⟨t5, t6⟩ | ⟨t5, t6, t7⟩
            · rw [t5]
              show sgF 0 (sgF (kqF q (h : Int) A) (fun t => t) (h : Int) (n.1 + tk)) _ _ g = τ
              rw [show ∀ σ y i, sgF 0 σ y i = σ from fun σ y i => if_neg (by omega), S1, if_neg (fun z => hg z.symm), t6]
            · rw [show ∀ σ y i, sgF (kqF q (g : Int) B) σ y i = va_up σ y.toNat i from fun σ y i => if_pos t5, Int.toNat_natCast, va_up_self, t6, et1]
          · rcases t5 with ⟨t5, t6⟩ | ⟨t5, t6, t7⟩
            · rw [t5]
              show sgF 0 (sgF (kqF q (h : Int) A) (fun t => t) (h : Int) (n.1 + tk)) _ _ t = t
              rw [show ∀ σ y i, sgF 0 σ y i = σ from fun σ y i => if_neg (by omega), S1, if_neg n1]
            · rw [show ∀ σ y i, sgF (kqF q (g : Int) B) σ y i = va_up σ y.toNat i from fun σ y i => if_pos t5, Int.toNat_natCast, va_up_ne _ _ n2, S1, if_neg n1]
          · show vlF (g : Int) (vlF (h : Int) q.2.2.2 A) B t = _
            unfold vlF
            rw [if_neg (by omega), if_neg (by omega), Int.toNat_natCast, Int.toNat_natCast, vk]
    have hrr : -5 ≤ r ∧ r ≤ 100 := by
      by_cases c : x = -1
      · have := (hn1 c).2
        omega
      · obtain ⟨ρ, z1, -, -, -, z2, -⟩ := hs1 c
        omega
    have hB11 : M1 9 1 = (nd B : Int) := hB1.1
    refine run 60 [72] _ _ _ _ ?_
    refine And.intro ⟨⟨by omega, by omega⟩, ⟨by omega, by omega⟩⟩ (And.intro (fun _ => ?_) (fun c2 => absurd c2 (by omega)))
    by_cases cy : y = -1
    · subst cy
      refine And.intro ⟨⟨by omega, by omega⟩, ⟨by omega, by omega⟩⟩ (And.intro (fun c1 => absurd c1 (by omega)) (fun _ => ?_))
      refine And.intro ?_ trivial
      exact s72 (-1) M1 (Rf_none R1)
    · obtain ⟨g, rfl, g1, g2⟩ := (hy.resolve_left cy).nat
      refine And.intro ⟨⟨by omega, by omega⟩, ⟨by omega, by omega⟩⟩ (And.intro (fun _ => ?_) (fun c2 => absurd c2 (by omega)))
      refine And.intro rfl (And.intro rfl ?_)
      conv => whnf
      rw [hB11]
      refine And.intro rfl ⟨(tk1, q1, g, nd B), ⟨rfl, R1, by omega, g1, by omega⟩, ?_⟩
      rintro r2 M2 hp
      refine And.intro ?_ trivial
      exact s72 r2 M2 (Rf_run R1 (by omega) g1 (by rw [rk1 g g1]; exact g2) nB hp)
  have hA11 : M0 7 1 = (nd A : Int) := hA.1
  change aw 0 [some (.inr (.inr 0)), some (.inl x), some (.inl y), none, none, none, none] [] M0
  refine run 60 [38] _ _ _ _ ?_
  refine And.intro rfl (And.intro rfl (And.intro rfl (And.intro rfl ?_)))
  by_cases cx : x = -1
  · subst cx
    refine And.intro ⟨⟨by omega, by omega⟩, ⟨by omega, by omega⟩⟩ (And.intro (fun c1 => absurd c1 (by omega)) (fun _ => ?_))
    refine And.intro ?_ trivial
    exact s38 (-1) M0 (Rf_none R)
  · obtain ⟨h, rfl, h1, h2⟩ := (hx.resolve_left cx).nat
    refine And.intro ⟨⟨by omega, by omega⟩, ⟨by omega, by omega⟩⟩ (And.intro (fun _ => ?_) (fun c2 => absurd c2 (by omega)))
    refine And.intro rfl (And.intro rfl ?_)
    conv => whnf
    rw [hA11]
    refine And.intro rfl ⟨(tk, q, h, nd A), ⟨rfl, R, by omega, h1, by omega⟩, ?_⟩
    rintro r M1 hp
    refine And.intro ?_ trivial
    exact s38 r M1 (Rf_run R (by omega) h1 h2 nA hp)
theorem imX7_bringBoth {l : Launch} {Z : ZT} (hZ : ZOk Z) : Impl l Z yX7_bringBoth cX7_bringBoth 7 (some .int) 6 (c_bring (zN Z)) := mkImpl (rt := 1) (CL := [(205, some 1, (c_runFor (zN Z))), (208, some 1, (c_settle (zN Z))), (212, some 1, (c_drop (zN Z)))]) hZ.1 hZ.2.1 (by decide +kernel) kX7_bringBoth fwX7 iwX7 lwX7 trivial (Nat.le_of_ble_eq_true rfl) (List.forall_mem_cons.mpr ⟨gX7_205 hZ (by decide), List.forall_mem_cons.mpr ⟨gX7_208 hZ (by decide), List.forall_mem_cons.mpr ⟨gX7_212 hZ (by decide), fun q h => absurd h List.not_mem_nil⟩⟩⟩) ((v_bring (zN Z)))
theorem gX7_193 {l : Launch} {Z : ZT} (hZ : ZOk Z) {d : Nat} (hd : 7 ≤ d) : CallI l Z RX7 d (193, some 7, (c_bring (zN Z))) := fun p e s m args below meth c Q cc nL x0 X => callOk_V X (imX7_bringBoth hZ) (by decide) rfl mlX7_193 iw_yX7_bringBoth vw_yX7_bringBoth nw_RX7 cw_yX7_bringBoth ⟨by decide +kernel, by decide +kernel, show (parseMethodDescriptor yX7_bringBoth.desc).map (fun d => d.parameters.length) = some 2 by decide +kernel⟩ ⟨hd, by decide⟩
