/-! ===== the reference: divmod ===== -/
theorem RN.takeQ {n : Nn} {M M' : Mem} {tk : Nat} {q : RS} {k x : Int} (R : RN n M tk q) (hk : 0 < k) (h : x = (tkF n.1 n.2.1 tk q.1 q.2.1 k).1 ∧ AgM n M' (tkF n.1 n.2.1 tk q.1 q.2.1 k).2.1 (tkF n.1 n.2.1 tk q.1 q.2.1 k).2.2.1 (tkF n.1 n.2.1 tk q.1 q.2.1 k).2.2.2.1 ∧ M' 50 11 = M 50 11 + (tkF n.1 n.2.1 tk q.1 q.2.1 k).2.2.2.2 ∧ FrT M M') :
    ∃ (pl1 rm1 : Nat → Int) (sl1 : Int), ((x = 1 ∧ (∀ f, tcR n tk q k f = f (tk + 1) (pl1, rm1, sl1, q.2.2.2)) ∧ RN n M' (tk + 1) (pl1, rm1, sl1, q.2.2.2) ∧ rm1 (n.1 + tk) = k ∧ ∀ t, t ≠ n.1 + tk → rm1 t = q.2.1 t) ∨ (x = 0 ∧ RN n M' 0 (pl1, rm1, sl1, q.2.2.2) ∧ ∀ f, tcR n tk q k f = (-4, (pl1, rm1, sl1, q.2.2.2)))) ∧ (∀ h, h < n.1 → rm1 h = q.2.1 h) ∧ FrT M M' := by
  obtain ⟨h1, h2, h3, h4⟩ := h
  have R1 := R.tk h2 h3 h4
  refine ⟨(tkR n tk q k).2.2.1, (tkR n tk q k).2.2.2.1, (tkR n tk q k).2.2.2.2.1, ?_, fun h hh => tkR_rm hh, h4⟩
  rcases tkF_cases (n1 := n.1) (c := n.2.1) (tk := tk) (pl := q.1) (rm := q.2.1) hk with ⟨t1, t2⟩ | ⟨t1, t2, t3⟩
  · have e2 : (tkR n tk q k).2.1 = 0 := t2
    rw [e2] at R1
    exact Or.inr ⟨h1.trans t1, R1, fun f => if_pos t1⟩
  · have e2 : (tkR n tk q k).2.1 = tk + 1 := t2
    rw [e2] at R1
    refine Or.inl ⟨h1.trans t1, fun f => ?_, R1, t3, fun t ht => tkF_rm2 t1 ht⟩
    unfold tcR
    rw [if_neg (show ¬ (tkR n tk q k).1 = 0 from fun z => by have : (tkR n tk q k).1 = 1 := t1; omega), e2]
    rfl
theorem RN.tk5 {n : Nn} {M : Mem} {tk : Nat} {q : RS} (R : RN n M tk q) : M 50 10 = (tk : Int) := R.1.1.2.2.2.2.2.2.1
theorem Fr2.N {M M' : Mem} {q r : Nat} (h : Fr2 M M' q r) : FN M M' := ⟨fun o a => h.1 o (by omega) (by omega), fun j _ _ => by rw [h.1 50 (by decide) (by decide)]⟩
theorem vs4 {h k x y : Int} (e : x = y) : ([.inr (.inr 50), .inl h, .inl k, .inl x] : List AV) = [.inr (.inr 50), .inl h, .inl k, .inl y] := by rw [e]
set_option maxHeartbeats 4000000 in
theorem v_divmod (n0 : Nn) : Ver tX8_divmod (fdX8, icX8, lcX8, [(138, some 8, c_isLiveL), (97, some 8, c_divide), (131, some 8, c_take), (135, some 8, c_gets), (101, some 8, c_copy)]) 1 7 n0 (cN4 dvmF) := by
  rintro ⟨n, q, x, y, a, b⟩ vs M0 ⟨rfl, ix, iy, ia, ib, R⟩ aw run
  have ix0 := ix
  have iy0 := iy
  unfold inR at ix0 iy0
  have l52 : lnF n0 52 = 37 := rfl
  have l54 : lnF n0 54 = 24 := rfl
  have b2 := R.n24
  have bad : ¬ ((x = -1 ∨ Lv n q x) ∧ (y = -1 ∨ Lv n q y) ∧ Lv n q a ∧ Lv n q b) → aw 43 [some (.inr (.inr 50)), some (.inl x), some (.inl y), some (.inl a), some (.inl b), none, none] [] M0 := by
    intro hb
    have e : dvmF n q x y a b = (-2, q) := if_neg hb
    refine run 60 [] _ _ _ _ ?_
    refine Or.inl ?_
    show -2 = ((dvmF n q x y a b)).1 ∧ RN n M0 0 ((dvmF n q x y a b)).2 ∧ FN M0 M0
    rw [e]
    exact ⟨rfl, R, FN.rf _⟩
  have g46 : (x = -1 ∨ Lv n q x) → (y = -1 ∨ Lv n q y) → Lv n q a → Lv n q b → aw 46 [some (.inr (.inr 50)), some (.inl x), some (.inl y), some (.inl a), some (.inl b), none, none] [] M0 := by
    intro hx hy ha hb
    have e : dvmF n q x y a b = (if q.2.2.2 b.toNat = 0 then (-6, q) else if x = y ∧ x ≠ -1 then (-7, q) else dvG n q x y (q.2.2.2 a.toNat) (q.2.2.2 b.toNat)) := if_pos ⟨hx, hy, ha, hb⟩
    obtain ⟨a, rfl, a_1, a_2⟩ := ha.nat
    have Aa := R.at a_1 a_2
    obtain ⟨b, rfl, b_1, b_2⟩ := hb.nat
    have Ab := R.at b_1 b_2
    rw [Int.toNat_natCast, Int.toNat_natCast] at e
    have na := Aa.2.2.2.2.1
    have nb := Ab.2.2.2.2.1
    have ea := Aa.2.2.2.2.2.2.2
    have eb := Ab.2.2.2.2.2.2.2
    have hz := nd_z (v := q.2.2.2 b)
    have g72 : q.2.2.2 b ≠ 0 → ¬ (x = y ∧ x ≠ -1) → aw 72 [some (.inr (.inr 50)), some (.inl x), some (.inl y), some (.inl (a : Int)), some (.inl (b : Int)), none, none] [] M0 := by
      intro hb0 hxy
      rw [if_neg hb0, if_neg hxy] at e
      unfold dvG at e
      obtain ⟨A, eA⟩ : ∃ A, A = q.2.2.2 a / q.2.2.2 b := ⟨_, rfl⟩
      obtain ⟨B, eB⟩ : ∃ B, B = q.2.2.2 a % q.2.2.2 b := ⟨_, rfl⟩
      rw [← eA, ← eB] at e
      have nA : nd A ≤ 64 := by rw [eA]; exact Nat.le_trans (nd_mono (Nat.div_le_self _ _)) na
      have nB : nd B ≤ 64 := by rw [eB]; exact Nat.le_trans (nd_md hb0) nb
      refine run 90 [182] _ _ _ _ ?_
      refine And.intro rfl ⟨(a, b, 24, 25, q.2.2.2 a, q.2.2.2 b), ⟨rfl, by omega, by omega, by omega, by omega, by omega, by omega, by omega, by omega, by omega, Aa.2.2.2.1, by omega, Ab.2.2.2.1, by omega, hb0⟩, ?_⟩
      rintro M1 ⟨hA1, hB1, hF1⟩
      rw [← eA] at hA1
      rw [← eB] at hB1
      have R1 := R.fl (hF1.L (L := SCL) (by decide) (by decide)) SCL_ge
      have f1 := hF1.N
      have ea1 := (R1.at a_1 a_2).2.2.2.2.2.2.2
      refine And.intro rfl (And.intro ⟨rfl, by omega, by omega⟩ ?_)
      conv => whnf
      rw [Int.toNat_natCast, ea1]
      refine And.intro rfl ⟨(n, 0, (q).1, (q).2.1, ((nd (q.2.2.2 a) : Int) + 1)), ⟨rfl, R1.1, by omega, by omega, by omega⟩, ?_⟩
      rintro x M2 hp2
      obtain ⟨tk2, pl2, rm2, sl2, ho2, ht2, R2, rk2, hF2⟩ := R1.take hp2
      clear hp2
      rcases ho2 with ⟨rfl, hu2⟩ | ⟨rfl, h0, hu2⟩
      rotate_left
      · refine And.intro ⟨⟨by omega, by omega⟩, ⟨by omega, by omega⟩⟩ (And.intro (fun _ => ?_) (fun c2 => absurd c2 (by omega)))
        refine Or.inl ?_
        show -4 = ((dvmF n q x y a b)).1 ∧ RN n M2 0 ((dvmF n q x y a b)).2 ∧ FN M0 M2
        rw [e, hu2]
        subst h0
        exact ⟨rfl, R2, f1.tr hF2.N⟩
      refine And.intro ⟨⟨by omega, by omega⟩, ⟨by omega, by omega⟩⟩ (And.intro (fun c1 => absurd c1 (by omega)) (fun _ => ?_))
      have eb2 := (R2.at b_1 (ltE b_2 (rk2 b b_1))).2.2.2.2.2.2.2
      refine And.intro rfl (And.intro ⟨rfl, by omega, by omega⟩ ?_)
      conv => whnf
      rw [Int.toNat_natCast, eb2]
      refine And.intro rfl ⟨(n, tk2, (((pl2, rm2, sl2, q.2.2.2) : RS)).1, (((pl2, rm2, sl2, q.2.2.2) : RS)).2.1, (nd (q.2.2.2 b) : Int)), ⟨rfl, R2.1, by omega, by omega, by omega⟩, ?_⟩
      rintro x M3 hp3
      obtain ⟨tk3, pl3, rm3, sl3, ho3, ht3, R3, rk3, hF3⟩ := R2.take hp3
      clear hp3
      rcases ho3 with ⟨rfl, hu3⟩ | ⟨rfl, h0, hu3⟩
      rotate_left
      · refine And.intro ⟨⟨by omega, by omega⟩, ⟨by omega, by omega⟩⟩ (And.intro (fun _ => ?_) (fun c2 => absurd c2 (by omega)))
        refine Or.inl ?_
        show -4 = ((dvmF n q x y a b)).1 ∧ RN n M3 0 ((dvmF n q x y a b)).2 ∧ FN M0 M3
        rw [e.trans ((hu2 _).trans (hu3 _))]
        subst h0
        exact ⟨rfl, R3, (f1.tr hF2.N).tr hF3.N⟩
      refine And.intro ⟨⟨by omega, by omega⟩, ⟨by omega, by omega⟩⟩ (And.intro (fun c1 => absurd c1 (by omega)) (fun _ => ?_))
      have ea3 := (R3.at a_1 (ltE (ltE a_2 (rk2 a a_1)) (rk3 a a_1))).2.2.2.2.2.2.2
      have eb3 := (R3.at b_1 (ltE (ltE b_2 (rk2 b b_1)) (rk3 b b_1))).2.2.2.2.2.2.2
      refine And.intro rfl (And.intro ⟨rfl, by omega, by omega⟩ ?_)
      refine And.intro rfl (And.intro ⟨rfl, by omega, by omega⟩ ?_)
      conv => whnf
      rw [Int.toNat_natCast, Int.toNat_natCast, ea3, eb3]
      refine And.intro rfl ⟨(n, tk3, (((pl3, rm3, sl3, q.2.2.2) : RS)).1, (((pl3, rm3, sl3, q.2.2.2) : RS)).2.1, ((nd (q.2.2.2 a) : Int) - (nd (q.2.2.2 b) : Int) + 1)), ⟨rfl, R3.1, by omega, by omega, by omega⟩, ?_⟩
      rintro x M4 hp4
      obtain ⟨tk4, pl4, rm4, sl4, ho4, ht4, R4, rk4, hF4⟩ := R3.take hp4
      clear hp4
      rcases ho4 with ⟨rfl, hu4⟩ | ⟨rfl, h0, hu4⟩
      rotate_left
      · refine And.intro ⟨⟨by omega, by omega⟩, ⟨by omega, by omega⟩⟩ (And.intro (fun c1 => absurd c1 (by omega)) (fun _ => ?_))
        refine Or.inl ?_
        show -4 = ((dvmF n q x y a b)).1 ∧ RN n M4 0 ((dvmF n q x y a b)).2 ∧ FN M0 M4
        rw [e.trans ((hu2 _).trans ((hu3 _).trans (hu4 _)))]
        subst h0
        exact ⟨rfl, R4, ((f1.tr hF2.N).tr hF3.N).tr hF4.N⟩
      refine And.intro ⟨⟨by omega, by omega⟩, ⟨by omega, by omega⟩⟩ (And.intro (fun _ => ?_) (fun c2 => absurd c2 (by omega)))
      have e4 := e.trans ((hu2 _).trans ((hu3 _).trans (hu4 _)))
      have f4 := ((f1.tr hF2.N).tr hF3.N).tr hF4.N
      have rk : ∀ h, h < n.1 → rm4 h = q.2.1 h := fun h hh => ((rk4 h hh).trans (rk3 h hh)).trans (rk2 h hh)
      have hA4 : MH M4 24 A := hF4.mh (hF3.mh (hF2.mh hA1))
      have hB4 : MH M4 25 B := hF4.mh (hF3.mh (hF2.mh hB1))
      have t4 : tk4 ≤ 3 := by omega
      clear hu2 hu3 hu4 e R1 R2 R3 hF1 hF2 hF3 hF4 hA1 hB1 ea1 eb2 ea3 eb3 rk2 rk3 rk4 ht2 ht3 ht4
      have g226 : ∀ (u v : Nat) (M6 : Mem) (pl6 rm6 : Nat → Int) (sl6 : Int), dvmF n q x y a b = ((nd A : Int), gvR n (pl6, rm6, sl6, q.2.2.2) (sgF (kqF q y B) (sgF (kqF q x A) (fun t => t) x (n.1 + tk4)) y (n.1 + u)) (vlF y (vlF x q.2.2.2 A) B)) → RN n M6 v (pl6, rm6, sl6, q.2.2.2) → (∀ h, h < n.1 → rm6 h = q.2.1 h) → (0 < kqF q x A → u = tk4 + 1 ∧ rm6 (n.1 + tk4) = (nd A : Int)) → (0 < kqF q y B → rm6 (n.1 + u) = (nd B : Int)) → tk4 ≤ u → u ≤ 4 → MH M6 24 A → MH M6 25 B → FN M0 M6 → aw 226 [some (.inr (.inr 50)), some (.inl x), some (.inl y), some (.inl (a : Int)), some (.inl (b : Int)), some (.inl (tk4 : Int)), some (.inl (u : Int))] [] M6 := by
        intro u v M6 pl6 rm6 sl6 hE R6 rk6 hkx hky hu1 hu2 hA6 hB6 f6
        have fin : ∀ M8, GN n M6 M8 (pl6, rm6, sl6, q.2.2.2) (sgF (kqF q y B) (sgF (kqF q x A) (fun t => t) x (n.1 + tk4)) y (n.1 + u)) (vlF y (vlF x q.2.2.2 A) B) → MH M8 24 A → aw 278 [some (.inr (.inr 50)), some (.inl x), some (.inl y), some (.inl (a : Int)), some (.inl (b : Int)), some (.inl (tk4 : Int)), some (.inl (u : Int))] [] M8 := by
          intro M8 G hA8
          refine run 60 [] _ _ _ _ ?_
          refine And.intro rfl (And.intro rfl (And.intro ⟨rfl, by omega, by omega⟩ ?_))
          refine Or.inl ?_
          show up2 M8 50 10 0 52 24 = (dvmF n q x y a b).1 ∧ RN n (up2 M8 50 10 0) 0 (dvmF n q x y a b).2 ∧ FN M0 (up2 M8 50 10 0)
          rw [hE]
          exact ⟨by rw [up2_i (by decide)]; exact hA8.1, G.R R6, (f6.tr G.N).tr FN.up10⟩
        have g252 : ∀ M7, GN n M6 M7 (pl6, rm6, sl6, q.2.2.2) (sgF (kqF q x A) (fun t => t) x (n.1 + tk4)) (vlF x q.2.2.2 A) → MH M7 24 A → MH M7 25 B → aw 252 [some (.inr (.inr 50)), some (.inl x), some (.inl y), some (.inl (a : Int)), some (.inl (b : Int)), some (.inl (tk4 : Int)), some (.inl (u : Int))] [] M7 := by
          intro M7 G hA7 hB7
          refine run 60 [278] _ _ _ _ ?_
          by_cases hy1 : y = -1
          · refine And.intro ⟨⟨by omega, by omega⟩, ⟨by omega, by omega⟩⟩ (And.intro (fun _ => ?_) (fun c2 => absurd c2 (by omega)))
            refine And.intro (fin M7 ?_ hA7) trivial
            have k0 : kqF q y B = 0 := if_neg (fun z => z.1 hy1)
            unfold sgF vlF
            rw [k0, if_neg (by omega), if_pos hy1]
            exact G
          · have hyl : Lv n q y := by
              rcases hy with z | z
              · exact absurd z hy1
              · exact z
            obtain ⟨Y, eY, Y_1, Y_2⟩ := hyl.nat
            have sY : sgF (kqF q x A) (fun t => t) x (n.1 + tk4) Y = Y := by
              unfold sgF
              split
              · refine va_up_ne _ _ (fun z => hxy ?_)
                rename_i hk
                unfold kqF at hk
                by_cases hx1 : x ≠ -1
                · rcases hx with zx | zx
                  · exact absurd zx hx1
                  · exact ⟨by have := zx.1; omega, hx1⟩
                · rw [if_neg (fun z => hx1 z.1)] at hk
                  omega
              · rfl
            have ek : kqF q y B = if q.2.1 Y < (nd B : Int) then (nd B : Int) else 0 := by
              unfold kqF
              rw [eY, Int.toNat_natCast]
              by_cases c : q.2.1 Y < (nd B : Int)
              · rw [if_pos ⟨by omega, c⟩, if_pos c]
              · rw [if_neg (fun z => c z.2), if_neg c]
            have e6 := rk6 Y Y_1
            have m54 : M7 54 Y = q.2.1 Y := by
              have := G.2.2.2.1 Y Y_1
              rw [sY] at this
              change (_ ∧ rm6 Y = 0) ∨ (_ ∧ 0 < rm6 Y ∧ M7 54 Y = rm6 Y ∧ _) at this
              omega
            have r64 := (R.at Y_1 Y_2).2.2.2.2.2.2.1
            refine And.intro ⟨⟨by omega, by omega⟩, ⟨by omega, by omega⟩⟩ (And.intro (fun c1 => absurd c1 (by omega)) (fun _ => ?_))
            refine And.intro rfl (And.intro ⟨rfl, by omega, by omega⟩ ?_)
            conv => whnf
            rw [show ((25 : Int)).toNat = 25 from rfl, hB7.1, eY]
            refine And.intro rfl ⟨(Y, (nd B : Int), u + 1), ⟨vs4 (by omega), by omega, by omega, ⟨by omega, by omega⟩, ⟨by omega, by omega⟩, fun _ => by omega⟩, ?_⟩
            rintro M8 hM8
            change M8 = if (nd B : Int) ≤ M7 54 Y then M7 else up2 (up2 M7 55 Y (M7 56 u)) 54 Y (nd B : Int) at hM8
            have m51 : M8 51 = M7 51 := by
              rw [hM8]
              split
              · rfl
              · rw [up2_i (by decide), up2_i (by decide)]
            have m52 : M8 52 = M7 52 := by
              rw [hM8]
              split
              · rfl
              · rw [up2_i (by decide), up2_i (by decide)]
            refine And.intro rfl ⟨(25, Y, B), ⟨rfl, by omega, by omega, hB7.ft m51 m52, by omega⟩, ?_⟩
            rintro M9 ⟨hY9, hF9⟩
            have P : PhM M7 M9 Y B u := PhM.mk hM8 hY9 hF9
            refine And.intro ?_ trivial
            have G2 := GN.st (k := kqF q y B) R6 G P Y_1 sY (show 0 < rm6 Y by omega) (by
              show (kqF q y B ≤ 0 ∧ (nd B : Int) ≤ rm6 Y) ∨ (0 < kqF q y B ∧ rm6 Y < (nd B : Int) ∧ nd B ≤ 64 ∧ u < 5 ∧ rm6 (n.1 + u) = (nd B : Int) ∧ ∀ t, t < n.1 → sgF (kqF q x A) (fun t => t) x (n.1 + tk4) t ≠ n.1 + u)
              by_cases c : q.2.1 Y < (nd B : Int)
              · rw [if_pos c] at ek
                refine Or.inr ⟨by omega, by omega, nB, by omega, hky (by omega), fun t ht => ?_⟩
                unfold sgF
                split
                · rename_i hk
                  have := hkx hk
                  by_cases z : t = x.toNat
                  · rw [z, va_up_self]
                    omega
                  · rw [va_up_ne _ _ z]
                    show t ≠ n.1 + u
                    omega
                · show t ≠ n.1 + u
                  omega
              · rw [if_neg c] at ek
                exact Or.inl ⟨by omega, by omega⟩)
            have G3 : GN n M6 M9 (pl6, rm6, sl6, q.2.2.2) (sgF (kqF q y B) (sgF (kqF q x A) (fun t => t) x (n.1 + tk4)) y (n.1 + u)) (vlF y (vlF x q.2.2.2 A) B) := by
              have s1 : ∀ σ : Nat → Nat, sgF (kqF q y B) σ y (n.1 + u) = if 0 < kqF q y B then va_up σ Y (n.1 + u) else σ := by
                intro σ
                show (if 0 < kqF q y B then va_up σ y.toNat (n.1 + u) else σ) = _
                rw [show y.toNat = Y by omega]
              have s2 : ∀ w : Nat → Nat, vlF y w B = va_up w Y B := by
                intro w
                unfold vlF
                rw [if_neg hy1, show y.toNat = Y by omega]
              rw [s1, s2]
              exact G2
            have := fin M9 G3 (P.keep (by omega) hA7 (by omega))
            rw [eY] at this
            exact this
        refine run 60 [252] _ _ _ _ ?_
        have G0 := R6.G
        by_cases hx1 : x = -1
        · refine And.intro ⟨⟨by omega, by omega⟩, ⟨by omega, by omega⟩⟩ (And.intro (fun _ => ?_) (fun c2 => absurd c2 (by omega)))
          refine And.intro (g252 M6 ?_ hA6 hB6) trivial
          have k0 : kqF q x A = 0 := if_neg (fun z => z.1 hx1)
          unfold sgF vlF
          rw [k0, if_neg (by omega), if_pos hx1]
          exact G0
        · have hxl : Lv n q x := by
            rcases hx with z | z
            · exact absurd z hx1
            · exact z
          obtain ⟨X, eX, X_1, X_2⟩ := hxl.nat
          have ek : kqF q x A = if q.2.1 X < (nd A : Int) then (nd A : Int) else 0 := by
            unfold kqF
            rw [eX, Int.toNat_natCast]
            by_cases c : q.2.1 X < (nd A : Int)
            · rw [if_pos ⟨by omega, c⟩, if_pos c]
            · rw [if_neg (fun z => c z.2), if_neg c]
          have e6 := rk6 X X_1
          have m54 : M6 54 X = rm6 X := (R6.at X_1 (show 0 < rm6 X by omega)).2.1
          have r64 := (R.at X_1 X_2).2.2.2.2.2.2.1
          refine And.intro ⟨⟨by omega, by omega⟩, ⟨by omega, by omega⟩⟩ (And.intro (fun c1 => absurd c1 (by omega)) (fun _ => ?_))
          refine And.intro rfl (And.intro ⟨rfl, by omega, by omega⟩ ?_)
          conv => whnf
          rw [show ((24 : Int)).toNat = 24 from rfl, hA6.1, eX]
          refine And.intro rfl ⟨(X, (nd A : Int), tk4 + 1), ⟨vs4 (by omega), by omega, by omega, ⟨by omega, by omega⟩, ⟨by omega, by omega⟩, fun _ => by omega⟩, ?_⟩
          rintro M8 hM8
          change M8 = if (nd A : Int) ≤ M6 54 X then M6 else up2 (up2 M6 55 X (M6 56 tk4)) 54 X (nd A : Int) at hM8
          have m51 : M8 51 = M6 51 := by
            rw [hM8]
            split
            · rfl
            · rw [up2_i (by decide), up2_i (by decide)]
          have m52 : M8 52 = M6 52 := by
            rw [hM8]
            split
            · rfl
            · rw [up2_i (by decide), up2_i (by decide)]
          refine And.intro rfl ⟨(24, X, A), ⟨rfl, by omega, by omega, hA6.ft m51 m52, by omega⟩, ?_⟩
          rintro M9 ⟨hX9, hF9⟩
          have P : PhM M6 M9 X A tk4 := PhM.mk hM8 hX9 hF9
          refine And.intro ?_ trivial
          have G2 := GN.st (k := kqF q x A) R6 G0 P X_1 rfl (show 0 < rm6 X by omega) (by
            show (kqF q x A ≤ 0 ∧ (nd A : Int) ≤ rm6 X) ∨ (0 < kqF q x A ∧ rm6 X < (nd A : Int) ∧ nd A ≤ 64 ∧ tk4 < 5 ∧ rm6 (n.1 + tk4) = (nd A : Int) ∧ ∀ t, t < n.1 → t ≠ n.1 + tk4)
            by_cases c : q.2.1 X < (nd A : Int)
            · rw [if_pos c] at ek
              exact Or.inr ⟨by omega, by omega, nA, by omega, (hkx (by omega)).2, fun t ht => by omega⟩
            · rw [if_neg c] at ek
              exact Or.inl ⟨by omega, by omega⟩)
          have G3 : GN n M6 M9 (pl6, rm6, sl6, q.2.2.2) (sgF (kqF q x A) (fun t => t) x (n.1 + tk4)) (vlF x q.2.2.2 A) := by
            unfold sgF vlF
            rw [if_neg hx1, show x.toNat = X by omega]
            exact G2
          have := g252 M9 G3 (P.keep (by omega) hA6 (by omega)) (P.keep (by omega) hB6 (by omega))
          rw [eX] at this
          exact this
      have g182 : ∀ (u : Nat) (M5 : Mem) (pl5 rm5 : Nat → Int) (sl5 : Int), dvmF n q x y a b = tcR n u (pl5, rm5, sl5, q.2.2.2) (kqF q y B) (fun _ q5 => ((nd A : Int), gvR n q5 (sgF (kqF q y B) (sgF (kqF q x A) (fun t => t) x (n.1 + tk4)) y (n.1 + u)) (vlF y (vlF x q.2.2.2 A) B))) → RN n M5 u (pl5, rm5, sl5, q.2.2.2) → (∀ h, h < n.1 → rm5 h = q.2.1 h) → (0 < kqF q x A → u = tk4 + 1 ∧ rm5 (n.1 + tk4) = (nd A : Int)) → tk4 ≤ u → u ≤ 4 → MH M5 24 A → MH M5 25 B → FN M0 M5 → aw 182 [some (.inr (.inr 50)), some (.inl x), some (.inl y), some (.inl (a : Int)), some (.inl (b : Int)), some (.inl (tk4 : Int)), none] [] M5 := by
        intro u M5 pl5 rm5 sl5 hE R5 rk5 hkx hu1 hu2 hA5 hB5 f5
        refine run 60 [226] _ _ _ _ ?_
        refine And.intro rfl ?_
        conv => whnf
        rw [R5.tk5]
        by_cases hy1 : y = -1
        · have k0 : kqF q y B = 0 := if_neg (fun z => z.1 hy1)
          refine And.intro ⟨⟨by omega, by omega⟩, ⟨by omega, by omega⟩⟩ (And.intro (fun _ => ?_) (fun c2 => absurd c2 (by omega)))
          refine And.intro ?_ trivial
          refine g226 u u M5 pl5 rm5 sl5 ?_ R5 rk5 hkx (fun z => by omega) hu1 hu2 hA5 hB5 f5
          rw [hE, k0, tcR_0]
        · have hyl : Lv n q y := by
            rcases hy with z | z
            · exact absurd z hy1
            · exact z
          obtain ⟨Y, eY, Y_1, Y_2⟩ := hyl.nat
          have ek : kqF q y B = if q.2.1 Y < (nd B : Int) then (nd B : Int) else 0 := by
            unfold kqF
            rw [eY, Int.toNat_natCast]
            by_cases c : q.2.1 Y < (nd B : Int)
            · rw [if_pos ⟨by omega, c⟩, if_pos c]
            · rw [if_neg (fun z => c z.2), if_neg c]
          have e5 := rk5 Y Y_1
          have m54 : M5 54 Y = rm5 Y := (R5.at Y_1 (show 0 < rm5 Y by omega)).2.1
          have r64 := (R.at Y_1 Y_2).2.2.2.2.2.2.1
          refine And.intro ⟨⟨by omega, by omega⟩, ⟨by omega, by omega⟩⟩ (And.intro (fun c1 => absurd c1 (by omega)) (fun _ => ?_))
          refine And.intro rfl (And.intro ⟨rfl, by omega, by omega⟩ ?_)
          refine And.intro rfl (And.intro ⟨rfl, by omega, by omega⟩ ?_)
          conv => whnf
          rw [show ((25 : Int)).toNat = 25 from rfl, hB5.1, show y.toNat = Y by omega, m54, e5]
          refine And.intro ⟨⟨by omega, by omega⟩, ⟨by omega, by omega⟩⟩ (And.intro (fun c1 => ?_) (fun c2 => ?_))
          · rw [if_neg (by omega)] at ek
            refine And.intro ?_ trivial
            refine g226 u u M5 pl5 rm5 sl5 ?_ R5 rk5 hkx (fun z => by omega) hu1 hu2 hA5 hB5 f5
            rw [hE, ek, tcR_0]
          · rw [if_pos (by omega)] at ek
            refine And.intro rfl (And.intro ⟨rfl, by omega, by omega⟩ ?_)
            conv => whnf
            rw [show ((25 : Int)).toNat = 25 from rfl, hB5.1]
            refine And.intro rfl ⟨(n, u, pl5, rm5, (nd B : Int)), ⟨rfl, R5.1, by omega, by omega, by omega⟩, ?_⟩
            rintro z M6 hp
            obtain ⟨pl6, rm6, sl6, ho, rk6, hF6⟩ := R5.takeQ (by omega) hp
            clear hp
            rcases ho with ⟨rfl, hu, R6, hk, hn⟩ | ⟨rfl, R6, hu⟩
            · refine And.intro ⟨⟨by omega, by omega⟩, ⟨by omega, by omega⟩⟩ (And.intro (fun _ => ?_) (fun c2 => absurd c2 (by omega)))
              refine And.intro ?_ trivial
              refine g226 u (u + 1) M6 pl6 rm6 sl6 ?_ R6 (fun h hh => (rk6 h hh).trans (rk5 h hh)) (fun z => ⟨(hkx z).1, ?_⟩) (fun _ => hk) hu1 hu2 (hF6.mh hA5) (hF6.mh hB5) (f5.tr hF6.N)
              · rw [hE, ek, hu]
              · rw [hn _ (by have := (hkx z).1; omega)]
                exact (hkx z).2
            · refine And.intro ⟨⟨by omega, by omega⟩, ⟨by omega, by omega⟩⟩ (And.intro (fun c1 => absurd c1 (by omega)) (fun _ => ?_))
              refine Or.inl ?_
              show -4 = ((dvmF n q x y a b)).1 ∧ RN n M6 0 ((dvmF n q x y a b)).2 ∧ FN M0 M6
              rw [hE, ek, hu]
              exact ⟨rfl, R6, f5.tr hF6.N⟩
      refine And.intro rfl ?_
      conv => whnf
      rw [R4.tk5]
      by_cases hx1 : x = -1
      · have k0 : kqF q x A = 0 := if_neg (fun z => z.1 hx1)
        refine And.intro ⟨⟨by omega, by omega⟩, ⟨by omega, by omega⟩⟩ (And.intro (fun _ => ?_) (fun c2 => absurd c2 (by omega)))
        refine And.intro ?_ trivial
        refine g182 tk4 M4 pl4 rm4 sl4 ?_ R4 rk (fun z => by omega) (by omega) (by omega) hA4 hB4 f4
        refine e4.trans ?_
        rw [k0]
        exact tcR_0
      · have hxl : Lv n q x := by
          rcases hx with z | z
          · exact absurd z hx1
          · exact z
        obtain ⟨X, eX, X_1, X_2⟩ := hxl.nat
        have ek : kqF q x A = if q.2.1 X < (nd A : Int) then (nd A : Int) else 0 := by
          unfold kqF
          rw [eX, Int.toNat_natCast]
          by_cases c : q.2.1 X < (nd A : Int)
          · rw [if_pos ⟨by omega, c⟩, if_pos c]
          · rw [if_neg (fun z => c z.2), if_neg c]
        have e5 := rk X X_1
        have m54 : M4 54 X = rm4 X := (R4.at X_1 (show 0 < rm4 X by omega)).2.1
        have r64 := (R.at X_1 X_2).2.2.2.2.2.2.1
        refine And.intro ⟨⟨by omega, by omega⟩, ⟨by omega, by omega⟩⟩ (And.intro (fun c1 => absurd c1 (by omega)) (fun _ => ?_))
        refine And.intro rfl (And.intro ⟨rfl, by omega, by omega⟩ ?_)
        refine And.intro rfl (And.intro ⟨rfl, by omega, by omega⟩ ?_)
        conv => whnf
        rw [show ((24 : Int)).toNat = 24 from rfl, hA4.1, show x.toNat = X by omega, m54, e5]
        refine And.intro ⟨⟨by omega, by omega⟩, ⟨by omega, by omega⟩⟩ (And.intro (fun c1 => ?_) (fun c2 => ?_))
        · rw [if_neg (by omega)] at ek
          refine And.intro ?_ trivial
          refine g182 tk4 M4 pl4 rm4 sl4 ?_ R4 rk (fun z => by omega) (by omega) (by omega) hA4 hB4 f4
          refine e4.trans ?_
          rw [ek]
          exact tcR_0
        · rw [if_pos (by omega)] at ek
          refine And.intro rfl (And.intro ⟨rfl, by omega, by omega⟩ ?_)
          conv => whnf
          rw [show ((24 : Int)).toNat = 24 from rfl, hA4.1]
          refine And.intro rfl ⟨(n, tk4, pl4, rm4, (nd A : Int)), ⟨rfl, R4.1, by omega, by omega, by omega⟩, ?_⟩
          rintro z M5 hp
          obtain ⟨pl5, rm5, sl5, ho, rk5, hF5⟩ := R4.takeQ (by omega) hp
          clear hp
          rcases ho with ⟨rfl, hu, R5, hk, hn⟩ | ⟨rfl, R5, hu⟩
          · refine And.intro ⟨⟨by omega, by omega⟩, ⟨by omega, by omega⟩⟩ (And.intro (fun _ => ?_) (fun c2 => absurd c2 (by omega)))
            refine And.intro ?_ trivial
            refine g182 (tk4 + 1) M5 pl5 rm5 sl5 ?_ R5 (fun h hh => (rk5 h hh).trans (rk h hh)) (fun _ => ⟨rfl, hk⟩) (by omega) (by omega) (hF5.mh hA4) (hF5.mh hB4) (f4.tr hF5.N)
            refine e4.trans ?_
            rw [ek]
            exact hu _
          · refine And.intro ⟨⟨by omega, by omega⟩, ⟨by omega, by omega⟩⟩ (And.intro (fun c1 => absurd c1 (by omega)) (fun _ => ?_))
            refine Or.inl ?_
            show -4 = ((dvmF n q x y a b)).1 ∧ RN n M5 0 ((dvmF n q x y a b)).2 ∧ FN M0 M5
            have e5 := e4
            rw [ek] at e5
            rw [e5.trans (hu _)]
            exact ⟨rfl, R5, f4.tr hF5.N⟩
    refine run 60 [72] _ _ _ _ ?_
    refine And.intro rfl (And.intro ⟨rfl, by omega, by omega⟩ ?_)
    conv => whnf
    rw [Int.toNat_natCast, eb]
    refine And.intro ⟨⟨by omega, by omega⟩, ⟨by omega, by omega⟩⟩ (And.intro (fun c1 => ?_) (fun c2 => ?_))
    rotate_left
    · rw [if_pos (by omega)] at e
      refine Or.inl ?_
      show -6 = ((dvmF n q x y a b)).1 ∧ RN n M0 0 ((dvmF n q x y a b)).2 ∧ FN M0 M0
      rw [e]
      exact ⟨rfl, R, FN.rf _⟩
    have hb0 : q.2.2.2 b ≠ 0 := by omega
    refine And.intro ⟨⟨by omega, by omega⟩, ⟨by omega, by omega⟩⟩ (And.intro (fun c1 => ?_) (fun c2 => ?_))
    · exact And.intro (g72 hb0 (fun z => by omega)) trivial
    refine And.intro ⟨⟨by omega, by omega⟩, ⟨by omega, by omega⟩⟩ (And.intro (fun c1 => ?_) (fun c2 => ?_))
    · exact And.intro (g72 hb0 (fun z => z.2 (by omega))) trivial
    rw [if_neg hb0, if_pos (by omega)] at e
    refine Or.inl ?_
    show -7 = ((dvmF n q x y a b)).1 ∧ RN n M0 0 ((dvmF n q x y a b)).2 ∧ FN M0 M0
    rw [e]
    exact ⟨rfl, R, FN.rf _⟩
  have g26 : (x = -1 ∨ Lv n q x) → (y = -1 ∨ Lv n q y) → aw 26 [some (.inr (.inr 50)), some (.inl x), some (.inl y), some (.inl a), some (.inl b), none, none] [] M0 := by
    intro hx hy
    refine run 60 [43, 46] _ _ _ _ ?_
    refine And.intro rfl ⟨(n, 0, q, a), ⟨rfl, ia, R⟩, ?_⟩
    rintro x M0 ⟨⟨rfl, ha⟩ | ⟨rfl, ha⟩, rfl⟩
    rotate_left
    · refine And.intro ⟨⟨by omega, by omega⟩, ⟨by omega, by omega⟩⟩ (And.intro (fun _ => ?_) (fun c2 => absurd c2 (by omega)))
      exact And.intro (bad (fun z => ha z.2.2.1)) trivial
    refine And.intro ⟨⟨by omega, by omega⟩, ⟨by omega, by omega⟩⟩ (And.intro (fun c1 => absurd c1 (by omega)) (fun _ => ?_))
    refine And.intro rfl ⟨(n, 0, q, b), ⟨rfl, ib, R⟩, ?_⟩
    rintro x M0 ⟨⟨rfl, hb⟩ | ⟨rfl, hb⟩, rfl⟩
    rotate_left
    · refine And.intro ⟨⟨by omega, by omega⟩, ⟨by omega, by omega⟩⟩ (And.intro (fun c1 => absurd c1 (by omega)) (fun _ => ?_))
      exact And.intro (bad (fun z => hb z.2.2.2)) trivial
    refine And.intro ⟨⟨by omega, by omega⟩, ⟨by omega, by omega⟩⟩ (And.intro (fun _ => ?_) (fun c2 => absurd c2 (by omega)))
    exact And.intro (g46 hx hy ha hb) trivial
  have g13 : (x = -1 ∨ Lv n q x) → aw 13 [some (.inr (.inr 50)), some (.inl x), some (.inl y), some (.inl a), some (.inl b), none, none] [] M0 := by
    intro hx
    refine run 60 [26, 43] _ _ _ _ ?_
    by_cases hy1 : y = -1
    · refine And.intro ⟨⟨by omega, by omega⟩, ⟨by omega, by omega⟩⟩ (And.intro (fun _ => ?_) (fun c2 => absurd c2 (by omega)))
      exact And.intro (g26 hx (Or.inl hy1)) trivial
    · refine And.intro ⟨⟨by omega, by omega⟩, ⟨by omega, by omega⟩⟩ (And.intro (fun c1 => absurd c1 (by omega)) (fun _ => ?_))
      refine And.intro rfl ⟨(n, 0, q, y), ⟨rfl, iy, R⟩, ?_⟩
      rintro x M0 ⟨⟨rfl, hy⟩ | ⟨rfl, hy⟩, rfl⟩
      rotate_left
      · refine And.intro ⟨⟨by omega, by omega⟩, ⟨by omega, by omega⟩⟩ (And.intro (fun _ => ?_) (fun c2 => absurd c2 (by omega)))
        exact And.intro (bad (fun z => hy (by rcases z.2.1 with c | c; exact absurd c hy1; exact c))) trivial
      refine And.intro ⟨⟨by omega, by omega⟩, ⟨by omega, by omega⟩⟩ (And.intro (fun c1 => absurd c1 (by omega)) (fun _ => ?_))
      exact And.intro (g26 hx (Or.inr hy)) trivial
  change aw 0 [some (.inr (.inr 50)), some (.inl x), some (.inl y), some (.inl a), some (.inl b), none, none] [] M0
  refine run 60 [13, 43] _ _ _ _ ?_
  by_cases hx1 : x = -1
  · refine And.intro ⟨⟨by omega, by omega⟩, ⟨by omega, by omega⟩⟩ (And.intro (fun _ => ?_) (fun c2 => absurd c2 (by omega)))
    exact And.intro (g13 (Or.inl hx1)) trivial
  · refine And.intro ⟨⟨by omega, by omega⟩, ⟨by omega, by omega⟩⟩ (And.intro (fun c1 => absurd c1 (by omega)) (fun _ => ?_))
    refine And.intro rfl ⟨(n, 0, q, x), ⟨rfl, ix, R⟩, ?_⟩
    rintro x M0 ⟨⟨rfl, hx⟩ | ⟨rfl, hx⟩, rfl⟩
    rotate_left
    · refine And.intro ⟨⟨by omega, by omega⟩, ⟨by omega, by omega⟩⟩ (And.intro (fun _ => ?_) (fun c2 => absurd c2 (by omega)))
      exact And.intro (bad (fun z => hx (by rcases z.1 with c | c; exact absurd c hx1; exact c))) trivial
    refine And.intro ⟨⟨by omega, by omega⟩, ⟨by omega, by omega⟩⟩ (And.intro (fun c1 => absurd c1 (by omega)) (fun _ => ?_))
    exact And.intro (g13 (Or.inr hx)) trivial
theorem imX8_divmod {l : Launch} {Z : ZT} (hZ : ZOk Z) : Impl l Z yX8_divmod cX8_divmod 7 (some .int) 4 (cN4 dvmF) := mkImpl (rt := 1) (CL := [(138, some 8, c_isLiveL), (97, some 8, c_divide), (131, some 8, c_take), (135, some 8, c_gets), (101, some 8, c_copy)]) hZ.1 hZ.2.1 (by decide +kernel) kX8_divmod fwX8 iwX8 lwX8 trivial (Nat.le_of_ble_eq_true rfl) (List.forall_mem_cons.mpr ⟨gX8_138_L hZ (by decide), List.forall_mem_cons.mpr ⟨gX8_97 hZ (by decide), List.forall_mem_cons.mpr ⟨gX8_131 hZ (by decide), List.forall_mem_cons.mpr ⟨gX8_135 hZ (by decide), List.forall_mem_cons.mpr ⟨gX8_101 hZ (by decide), fun q h => absurd h List.not_mem_nil⟩⟩⟩⟩⟩) ((v_divmod _))
