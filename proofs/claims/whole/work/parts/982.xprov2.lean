/-! ===== the class: prove ===== -/
def c_wrN (n : Nn) (r : Nat) : Call := ⟨Nat × Nat, 3, (fun (p, c) vs M => vs = [.inr (.inr 47), .inl (p : Int), .inl (13 - (r : Int))] ∧ r ≤ 12 ∧ Pr p ∧ p < 1073741824 ∧ M 47 1 = (c : Int) ∧ c ≤ n.2.2 ∧ n.2.2 ≤ 400), .inr (fun (p, c) _ M x M' => ((x = 1 ∧ crD r p = false ∧ DrO n M M' c (crW r p)) ∨ (x = 0 ∧ (crD r p = true ∨ n.2.2 < c + (crW r p).length))) ∧ FPr M M' (9 * (12 - r)))⟩
def c_wrF (n : Nn) (r : Nat) : Call := ⟨Nat × Nat, 3, (fun (p, c) vs M => vs = [.inr (.inr 47), .inl (p : Int), .inl (12 - (r : Int))] ∧ r ≤ 11 ∧ Pr p ∧ p ≠ 2 ∧ p < 1073741824 ∧ M 47 1 = (c : Int) ∧ c ≤ n.2.2 ∧ n.2.2 ≤ 400), .inr (fun (p, c) _ M x M' => ((x = 1 ∧ (fs (p - 1)).any (crD r) = false ∧ DrO n M M' c (numW (lw p) ++ (((fs (p - 1)).length : Nat) : Int) :: bdy (crW r) (p - 1) (fs (p - 1)))) ∨ (x = 0 ∧ ((fs (p - 1)).any (crD r) = true ∨ n.2.2 < c + (numW (lw p) ++ (((fs (p - 1)).length : Nat) : Int) :: bdy (crW r) (p - 1) (fs (p - 1))).length))) ∧ FPr M M' (9 * (11 - r)))⟩
theorem v_wrN0 (n : Nn) : Ver tX4_writeNode (fdX4, icX4, lcX4, []) 2 3 n (c_wrN n 0) := by
  rintro ⟨p, c⟩ vs M0 ⟨rfl, hr, hp, hpl, h1, h2, h3⟩ aw run
  change aw 0 [some (.inr (.inr 47)), some (.inl (p : Int)), some (.inl 13)] [] M0
  refine run 60 [] _ _ _ _ ?_
  refine And.intro ⟨⟨by omega, by omega⟩, ⟨by omega, by omega⟩⟩ (And.intro (fun _ => ?_) (fun c2 => absurd c2 (by omega)))
  exact And.intro (Or.inl rfl) (Or.inl ⟨Or.inr ⟨rfl, Or.inl rfl⟩, FPr.rf _ _⟩)
theorem v_wrN (n : Nn) (r : Nat) : Ver tX4_writeNode (fdX4, icX4, lcX4, [(35, some 4, c_putN n), (39, some 4, c_wrF n r)]) 2 3 n (c_wrN n (r + 1)) := by
  rintro ⟨p, c⟩ vs M0 ⟨rfl, hr, hp, hpl, h1, h2, h3⟩ aw run
  have p2 := hp.1
  have e13 : (13 : Int) - ((r + 1 : Nat) : Int) = 12 - (r : Int) := by omega
  have ef : 9 * (12 - (r + 1)) = 9 * (11 - r) := by omega
  change aw 0 [some (.inr (.inr 47)), some (.inl (p : Int)), some (.inl (13 - ((r + 1 : Nat) : Int)))] [] M0
  rw [e13]
  refine run 60 [] _ _ _ _ ?_
  refine And.intro ⟨⟨by omega, by omega⟩, ⟨by omega, by omega⟩⟩ (And.intro (fun c1 => absurd c1 (by omega)) (fun _ => ?_))
  refine And.intro rfl ⟨(c, p), ⟨rfl, hpl, h1, h2, h3⟩, ?_⟩
  rintro x M1 ⟨hx, hF1⟩
  have F1 : FPr M0 M1 (9 * (12 - (r + 1))) := ⟨fun o a b _ => hF1 o a b, fun j _ => by rw [hF1 49 (by decide) (by decide)]⟩
  have eW : p ≠ 2 → crW (r + 1) p = numW p ++ (numW (lw p) ++ (((fs (p - 1)).length : Nat) : Int) :: bdy (crW r) (p - 1) (fs (p - 1))) := fun z => by rw [crW, if_neg z, List.append_assoc]
  have eD : p ≠ 2 → crD (r + 1) p = (fs (p - 1)).any (crD r) := fun z => by rw [crD, if_neg z]
  have eW2 : p = 2 → crW (r + 1) p = numW p := fun z => by rw [crW, if_pos z, z]
  have eD2 : p = 2 → crD (r + 1) p = false := fun z => by rw [crD, if_pos z]
  rcases hx with ⟨rfl, D1⟩ | ⟨rfl, D1⟩
  rotate_left
  · refine And.intro ⟨⟨by omega, by omega⟩, ⟨by omega, by omega⟩⟩ (And.intro (fun c1 => absurd c1 (by omega)) (fun _ => ?_))
    refine And.intro (Or.inl rfl) (Or.inl ⟨Or.inr ⟨rfl, Or.inr ?_⟩, F1⟩)
    by_cases z : p = 2
    · rw [eW2 z]
      exact D1
    · rw [eW z, List.length_append]
      omega
  refine And.intro ⟨⟨by omega, by omega⟩, ⟨by omega, by omega⟩⟩ (And.intro (fun _ => ?_) (fun c2 => absurd c2 (by omega)))
  by_cases z : p = 2
  · refine And.intro ⟨⟨by omega, by omega⟩, ⟨by omega, by omega⟩⟩ (And.intro (fun _ => ?_) (fun c2 => absurd c2 (by omega)))
    refine And.intro (Or.inr rfl) (Or.inl ⟨Or.inl ⟨rfl, eD2 z, ?_⟩, F1⟩)
    rw [eW2 z]
    exact D1
  refine And.intro ⟨⟨by omega, by omega⟩, ⟨by omega, by omega⟩⟩ (And.intro (fun c1 => absurd c1 (by omega)) (fun _ => ?_))
  have c1 := D1.1
  have d1 := D1.2.1
  refine And.intro rfl ⟨(p, c + (numW p).length), ⟨rfl, by omega, hp, z, hpl, d1, c1, h3⟩, ?_⟩
  rintro x M2 ⟨hx, hF2⟩
  have F2 : FPr M0 M2 (9 * (12 - (r + 1))) := F1.tr hF2 (by omega)
  rcases hx with ⟨rfl, hd, D2⟩ | ⟨rfl, hd⟩
  · refine And.intro ⟨⟨by omega, by omega⟩, ⟨by omega, by omega⟩⟩ (And.intro (fun c1 => absurd c1 (by omega)) (fun _ => ?_))
    refine And.intro (Or.inr rfl) (Or.inl ⟨Or.inl ⟨rfl, by rw [eD z]; exact hd, ?_⟩, F2⟩)
    rw [eW z]
    exact D1.app D2
  · refine And.intro ⟨⟨by omega, by omega⟩, ⟨by omega, by omega⟩⟩ (And.intro (fun _ => ?_) (fun c2 => absurd c2 (by omega)))
    refine And.intro (Or.inl rfl) (Or.inl ⟨Or.inr ⟨rfl, ?_⟩, F2⟩)
    rw [eD z, eW z]
    rcases hd with hd | hd
    · exact Or.inl hd
    · refine Or.inr ?_
      rw [List.length_append]
      omega
theorem v_wrF (n : Nn) (r : Nat) : Ver tX4_writeFactors (fdX4, icX4, lcX4, [(42, some 4, c_findF), (45, some 4, c_leastW), (35, some 4, c_putN n), (49, some 4, c_putX n), (52, none, c_expOf), (31, some 4, c_wrN n r)]) 2 6 n (c_wrF n r) := by
  rintro ⟨p, c⟩ vs M0 ⟨rfl, hr, hp, hp2, hpl, h1, h2, h3⟩ aw run
  have l49 : lnF n 49 = 108 := rfl
  have p2 := hp.1
  obtain ⟨f, ef⟩ : ∃ f, f = 9 * (11 - r) := ⟨_, rfl⟩
  have h9 := fs_9 (n := p - 1) (by omega) (by omega)
  obtain ⟨w1, w2, w3, -⟩ := lw_s hp
  have hq : ∀ q ∈ fs (p - 1), Pr q ∧ q < 1073741824 := by
    intro q hq
    have := (fs_mem (by omega)).mp hq
    exact ⟨this.1, by have := Nat.le_of_dvd (by omega) this.2; omega⟩
  obtain ⟨FL, eFL⟩ : ∃ FL, FL = fs (p - 1) := ⟨_, rfl⟩
  obtain ⟨A, eA⟩ : ∃ A, A = numW (lw p) ++ [((FL.length : Nat) : Int)] := ⟨_, rfl⟩
  have eT : numW (lw p) ++ (((fs (p - 1)).length : Nat) : Int) :: bdy (crW r) (p - 1) (fs (p - 1)) = A ++ bdy (crW r) (p - 1) FL := by
    rw [eA, eFL, List.append_assoc]
    rfl
  have lT : (numW (lw p) ++ (((fs (p - 1)).length : Nat) : Int) :: bdy (crW r) (p - 1) (fs (p - 1))).length = A.length + (bdy (crW r) (p - 1) FL).length := by rw [eT, List.length_append]
  have eAl : A.length = (numW (lw p)).length + 1 := by rw [eA, List.length_append]; rfl
  change aw 0 [some (.inr (.inr 47)), some (.inl (p : Int)), some (.inl (12 - (r : Int))), none, none, none] [] M0
  refine run 90 [43, 48] _ _ _ _ ?_
  conv => whnf
  rw [show (9 : Int) * (12 - (r : Int) - 1) = (f : Int) by omega, show (p : Int) - 1 = ((p - 1 : Nat) : Int) by omega]
  refine And.intro rfl ⟨(p - 1, f), ⟨rfl, by omega, by omega, by omega⟩, ?_⟩
  rintro x M1 ⟨rfl, hS1, hF1, hf1⟩
  rw [← eFL] at hS1 h9 hq ⊢
  have F1 : FPr M0 M1 f := ⟨fun o _ _ a => hF1 o a, hf1⟩
  have d1 : M1 47 1 = (c : Int) := by rw [hF1 47 (by decide)]; exact h1
  have bad : ∀ (o5 : Option AV) (M : Mem), FPr M0 M f → n.2.2 < c + A.length → aw 43 [some (.inr (.inr 47)), some (.inl (p : Int)), some (.inl (12 - (r : Int))), some (.inl (f : Int)), some (.inl ((f + FL.length : Nat) : Int)), o5] [] M := by
    intro o5 M hF hn
    refine run 60 [] _ _ _ _ ?_
    refine And.intro (Or.inl rfl) (Or.inl ⟨Or.inr ⟨rfl, Or.inr ?_⟩, by rw [← ef]; exact hF⟩)
    rw [lT]
    omega
  refine And.intro rfl ⟨(p, f), ⟨by rw [eFL], hp, hpl, by rw [← eFL]; omega, by rw [← eFL]; exact hS1⟩, ?_⟩
  rintro x M1 ⟨rfl, rfl⟩
  refine And.intro rfl ⟨(c, lw p), ⟨rfl, by omega, d1, h2, h3⟩, ?_⟩
  rintro x M2 ⟨hx, hF2⟩
  have F2 : FPr M0 M2 f := F1.tr (g := f) ⟨fun o a b _ => hF2 o a b, fun j _ => by rw [hF2 49 (by decide) (by decide)]⟩ (Nat.le_refl _)
  have o49 : M2 49 = M1 49 := hF2 49 (by decide) (by decide)
  rcases hx with ⟨rfl, D2⟩ | ⟨rfl, D2⟩
  rotate_left
  · refine And.intro ⟨⟨by omega, by omega⟩, ⟨by omega, by omega⟩⟩ (And.intro (fun _ => ?_) (fun c2 => absurd c2 (by omega)))
    exact And.intro (bad _ M2 F2 (by omega)) trivial
  refine And.intro ⟨⟨by omega, by omega⟩, ⟨by omega, by omega⟩⟩ (And.intro (fun c1 => absurd c1 (by omega)) (fun _ => ?_))
  have dr0 : ∀ {M' : Mem} {c' : Nat} {l : List Int}, DrO n M1 M' c' l → DrO n M0 M' c' l := fun h => ⟨h.1, h.2.1, h.2.2.1, fun i hi => by rw [h.2.2.2 i hi, hF1 48 (by decide)]⟩
  have c2 := D2.1
  have d2 := D2.2.1
  conv => whnf
  rw [show ((f + FL.length : Nat) : Int) - (f : Int) = ((FL.length : Nat) : Int) by omega]
  refine And.intro rfl ⟨(c + (numW (lw p)).length, ((FL.length : Nat) : Int)), ⟨rfl, d2, c2, h3⟩, ?_⟩
  rintro x M3 ⟨hx, hF3⟩
  have F3 : FPr M0 M3 f := F2.tr (g := f) ⟨fun o a b _ => hF3 o a b, fun j _ => by rw [hF3 49 (by decide) (by decide)]⟩ (Nat.le_refl _)
  rcases hx with ⟨rfl, D3⟩ | ⟨rfl, D3⟩
  rotate_left
  · change n.2.2 < c + (numW (lw p)).length + 1 at D3
    refine And.intro ⟨⟨by omega, by omega⟩, ⟨by omega, by omega⟩⟩ (And.intro (fun c1 => absurd c1 (by omega)) (fun _ => ?_))
    exact And.intro (bad _ M3 F3 (by omega)) trivial
  refine And.intro ⟨⟨by omega, by omega⟩, ⟨by omega, by omega⟩⟩ (And.intro (fun _ => ?_) (fun c2 => absurd c2 (by omega)))
  have D23 : DrO n M0 M3 c A := by
    rw [eA]
    exact dr0 (D2.app D3)
  have S3 : FcS M3 f FL := fun i q hi => by rw [hF3 49 (by decide) (by decide), o49]; exact hS1 i q hi
  refine And.intro ?_ trivial
  have loop : ∀ (FR : List Nat) (k : Nat) (B : List Int) (M : Mem), k + FR.length = FL.length → (∀ i q : Nat, FR[i]? = some q → FL[k + i]? = some q) → A ++ bdy (crW r) (p - 1) FL = B ++ bdy (crW r) (p - 1) FR → FL.any (crD r) = FR.any (crD r) → DrO n M0 M c B → FcS M f FL → FPr M0 M f → aw 48 [some (.inr (.inr 47)), some (.inl (p : Int)), some (.inl (12 - (r : Int))), some (.inl (f : Int)), some (.inl ((f + FL.length : Nat) : Int)), some (.inl ((f + k : Nat) : Int))] [] M := by
    intro FR
    induction FR with
    | nil =>
      intro k B M hk hi hB hany hD hS hF
      have hk : k = FL.length := by simpa using hk
      refine run 60 [48] _ _ _ _ ?_
      refine And.intro ⟨⟨by omega, by omega⟩, ⟨by omega, by omega⟩⟩ (And.intro (fun _ => ?_) (fun c2 => absurd c2 (by omega)))
      refine And.intro (Or.inr rfl) (Or.inl ⟨Or.inl ⟨rfl, by rw [← eFL, hany]; rfl, ?_⟩, by rw [← ef]; exact hF⟩)
      rw [eT, hB]
      show DrO n M0 M c (B ++ [])
      rw [List.append_nil]
      exact hD
    | cons q FR ih =>
      intro k B M hk hi hB hany hD hS hF
      have hkl : k + (FR.length + 1) = FL.length := by simpa using hk
      have hq0 : FL[k]? = some q := hi 0 q rfl
      obtain ⟨qp, ql⟩ := hq q (List.mem_of_getElem? hq0)
      have q2 := qp.1
      have e49 := hS k q hq0
      have eb : bdy (crW r) (p - 1) (q :: FR) = ((exF q (p - 1) : Nat) : Int) :: (crW r q ++ bdy (crW r) (p - 1) FR) := rfl
      have lb : A.length + (bdy (crW r) (p - 1) FL).length = B.length + 1 + (crW r q).length + (bdy (crW r) (p - 1) FR).length := by
        rw [← List.length_append, hB, List.length_append, eb, List.length_cons, List.length_append]
        omega
      have hany2 : FL.any (crD r) = (crD r q || FR.any (crD r)) := by rw [hany, List.any_cons]
      have cB := hD.1
      have dB := hD.2.1
      have no : ∀ M' : Mem, FPr M0 M' f → (FL.any (crD r) = true ∨ n.2.2 < c + (A.length + (bdy (crW r) (p - 1) FL).length)) → aw 92 [some (.inr (.inr 47)), some (.inl (p : Int)), some (.inl (12 - (r : Int))), some (.inl (f : Int)), some (.inl ((f + FL.length : Nat) : Int)), some (.inl ((f + k : Nat) : Int))] [] M' := by
        intro M' hF' hz
        refine run 60 [] _ _ _ _ ?_
        refine And.intro (Or.inl rfl) (Or.inl ⟨Or.inr ⟨rfl, ?_⟩, by rw [← ef]; exact hF'⟩)
        rw [lT, ← eFL]
        exact hz
      refine run 90 [48, 92] _ _ _ _ ?_
      refine And.intro ⟨⟨by omega, by omega⟩, ⟨by omega, by omega⟩⟩ (And.intro (fun c1 => absurd c1 (by omega)) (fun _ => ?_))
      refine And.intro rfl (And.intro ⟨rfl, by omega, by omega⟩ ?_)
      conv => whnf
      rw [Int.toNat_natCast, e49, show (p : Int) - 1 = ((p - 1 : Nat) : Int) by omega]
      refine ⟨(q, p - 1), ⟨rfl, q2, ql, by omega, by omega⟩, ?_⟩
      rintro x M ⟨rfl, rfl⟩
      refine And.intro rfl ⟨(c + B.length, ((exF q (p - 1) : Nat) : Int)), ⟨rfl, dB, cB, h3⟩, ?_⟩
      rintro x M4 ⟨hx, hF4⟩
      have F4 : FPr M0 M4 f := hF.tr (g := f) ⟨fun o a b _ => hF4 o a b, fun j _ => by rw [hF4 49 (by decide) (by decide)]⟩ (Nat.le_refl _)
      rcases hx with ⟨rfl, D4⟩ | ⟨rfl, D4⟩
      rotate_left
      · change n.2.2 < c + B.length + 1 at D4
        refine And.intro ⟨⟨by omega, by omega⟩, ⟨by omega, by omega⟩⟩ (And.intro (fun _ => ?_) (fun c2 => absurd c2 (by omega)))
        exact And.intro (no M4 F4 (Or.inr (by omega))) trivial
      refine And.intro ⟨⟨by omega, by omega⟩, ⟨by omega, by omega⟩⟩ (And.intro (fun c1 => absurd c1 (by omega)) (fun _ => ?_))
      have D5 := hD.app D4
      have c5 := D5.1
      have d5 := D5.2.1
      have l5 : (B ++ [((exF q (p - 1) : Nat) : Int)]).length = B.length + 1 := by rw [List.length_append]; rfl
      have e49' : M4 49 (f + k) = (q : Int) := by rw [hF4 49 (by decide) (by decide)]; exact e49
      refine And.intro rfl (And.intro ⟨rfl, by omega, by omega⟩ ?_)
      conv => whnf
      rw [Int.toNat_natCast, e49', show (12 : Int) - (r : Int) + 1 = 13 - (r : Int) by omega]
      refine And.intro rfl ⟨(q, c + (B ++ [((exF q (p - 1) : Nat) : Int)]).length), ⟨rfl, by omega, qp, ql, d5, c5, h3⟩, ?_⟩
      rintro x M5 ⟨hx, hF5⟩
      have F5 : FPr M0 M5 f := F4.tr hF5 (by omega)
      rcases hx with ⟨rfl, hd, D6⟩ | ⟨rfl, hd⟩
      rotate_left
      · refine And.intro ⟨⟨by omega, by omega⟩, ⟨by omega, by omega⟩⟩ (And.intro (fun c1 => absurd c1 (by omega)) (fun _ => ?_))
        refine And.intro (no M5 F5 ?_) trivial
        rcases hd with hd | hd
        · exact Or.inl (by rw [hany2, hd]; rfl)
        · rw [l5] at hd
          exact Or.inr (by omega)
      refine And.intro ⟨⟨by omega, by omega⟩, ⟨by omega, by omega⟩⟩ (And.intro (fun _ => ?_) (fun c2 => absurd c2 (by omega)))
      refine And.intro ?_ trivial
      rw [show ((f + k : Nat) : Int) + 1 = ((f + (k + 1) : Nat) : Int) by omega]
      refine ih (k + 1) (B ++ [((exF q (p - 1) : Nat) : Int)] ++ crW r q) M5 (by omega) (fun i q' hi' => ?_) ?_ ?_ (D5.app D6) (fun i q' hi' => ?_) F5
      · have := hi (i + 1) q' hi'
        rw [show k + (i + 1) = k + 1 + i by omega] at this
        exact this
      · rw [hB, eb]
        simp
      · rw [hany2, hd]
        rfl
      · have hlt := (List.getElem?_eq_some_iff.mp hi').1
        rw [hF5.2 (f + i) (by omega), hF4 49 (by decide) (by decide)]
        exact hS i q' hi'
  exact loop FL 0 A M3 (by omega) (fun i q h => by rw [Nat.zero_add]; exact h) rfl rfl D23 S3 F3
theorem imX4_wrN {l : Launch} {Z : ZT} (hZ : ZOk Z) : ∀ r : Nat, Impl l Z yX4_writeNode cX4_writeNode 3 (some .boolean) (6 + 2 * r) (c_wrN (zN Z) r) := by
  intro r
  induction r with
  | zero => exact mkImpl (rt := 2) (CL := []) hZ.1 hZ.2.1 (by decide +kernel) kX4_writeNode fwX4 iwX4 lwX4 trivial (Nat.le_of_ble_eq_true rfl) (fun q h => absurd h List.not_mem_nil) (v_wrN0 (zN Z))
  | succ r ih =>
    have hf : Impl l Z yX4_writeFactors cX4_writeFactors 6 (some .boolean) (6 + 2 * r + 1) (c_wrF (zN Z) r) := mkImpl (rt := 2) (CL := [(42, some 4, c_findF), (45, some 4, c_leastW), (35, some 4, c_putN (zN Z)), (49, some 4, c_putX (zN Z)), (52, none, c_expOf), (31, some 4, c_wrN (zN Z) r)]) hZ.1 hZ.2.1 (by decide +kernel) kX4_writeFactors fwX4 iwX4 lwX4 trivial (Nat.le_of_ble_eq_true rfl) (List.forall_mem_cons.mpr ⟨gX4_42 hZ (by omega), List.forall_mem_cons.mpr ⟨gX4_45 hZ (by omega), List.forall_mem_cons.mpr ⟨gX4_35 hZ (by omega), List.forall_mem_cons.mpr ⟨gX4_49 hZ (by omega), List.forall_mem_cons.mpr ⟨gX4_52 hZ (by omega), List.forall_mem_cons.mpr ⟨fun p e s m args below meth c Q cc nL x0 X => callOk_V X ih (by decide) rfl mlX4_31 iw_yX4_writeNode vw_yX4_writeNode nw_RX4 cw_yX4_writeNode ⟨by decide +kernel, by decide +kernel, show (parseMethodDescriptor yX4_writeNode.desc).map (fun d => d.parameters.length) = some 2 by decide +kernel⟩ ⟨by omega, by decide⟩, fun q h => absurd h List.not_mem_nil⟩⟩⟩⟩⟩⟩) (v_wrF (zN Z) r)
    exact mkImpl (rt := 2) (CL := [(35, some 4, c_putN (zN Z)), (39, some 4, c_wrF (zN Z) r)]) hZ.1 hZ.2.1 (by decide +kernel) kX4_writeNode fwX4 iwX4 lwX4 trivial (Nat.le_of_ble_eq_true rfl) (List.forall_mem_cons.mpr ⟨gX4_35 hZ (by omega), List.forall_mem_cons.mpr ⟨fun p e s m args below meth c Q cc nL x0 X => callOk_V X hf (by decide) rfl mlX4_39 iw_yX4_writeFactors vw_yX4_writeFactors nw_RX4 cw_yX4_writeFactors ⟨by decide +kernel, by decide +kernel, show (parseMethodDescriptor yX4_writeFactors.desc).map (fun d => d.parameters.length) = some 2 by decide +kernel⟩ ⟨by omega, by decide⟩, fun q h => absurd h List.not_mem_nil⟩⟩) (v_wrN (zN Z) r)
theorem gX4_31 {l : Launch} {Z : ZT} (hZ : ZOk Z) {d : Nat} (hd : 31 ≤ d) : CallI l Z RX4 d (31, some 4, c_wrN (zN Z) 12) := fun p e s m args below meth c Q cc nL x0 X => callOk_V X (imX4_wrN hZ 12) (by decide) rfl mlX4_31 iw_yX4_writeNode vw_yX4_writeNode nw_RX4 cw_yX4_writeNode ⟨by decide +kernel, by decide +kernel, show (parseMethodDescriptor yX4_writeNode.desc).map (fun d => d.parameters.length) = some 2 by decide +kernel⟩ ⟨hd, by decide⟩

def c_wrP (n : Nn) : Call := ⟨Nat × Nat, 2, (fun (p, _) vs _ => vs = [.inr (.inr 47), .inl (p : Int)] ∧ Pr p ∧ p < 1073741824 ∧ n.2.2 ≤ 400), .inr (fun (p, _) _ M x M' => ((x = 1 ∧ crD 12 p = false ∧ (crW 12 p).length ≤ n.2.2 ∧ M' 47 1 = ((crW 12 p).length : Int) ∧ ∀ i x, (crW 12 p)[i]? = some x → M' 48 i = x) ∨ (x = 0 ∧ (crD 12 p = true ∨ n.2.2 < (crW 12 p).length))) ∧ ∀ o, (o < 47 ∨ 49 < o) → M' o = M o)⟩
theorem v_wrP (n : Nn) : Ver tX4_write (fdX4, icX4, lcX4, [(31, some 4, c_wrN n 12)]) 2 2 n (c_wrP n) := by
  rintro ⟨p, z⟩ vs M0 ⟨rfl, hp, hpl, h3⟩ aw run
  have k1 : up2 M0 47 1 0 47 1 = ((0 : Nat) : Int) := up2_s
  change aw 0 [some (.inr (.inr 47)), some (.inl (p : Int))] [] M0
  refine run 60 [] _ _ _ _ ?_
  refine And.intro rfl (And.intro rfl ⟨(p, 0), ⟨rfl, by omega, hp, hpl, k1, Nat.zero_le _, h3⟩, ?_⟩)
  rintro x M1 ⟨hx, hF1⟩
  have F1 : ∀ o, (o < 47 ∨ 49 < o) → M1 o = M0 o := fun o ho => by rw [hF1.1 o (by omega) (by omega) (by omega), up2_i (by omega)]
  rcases hx with ⟨rfl, hd, D⟩ | ⟨rfl, hd⟩
  · obtain ⟨a1, a2, a3, a4⟩ := D
    rw [Nat.zero_add] at a1 a2
    exact And.intro (Or.inr rfl) (Or.inl ⟨Or.inl ⟨rfl, hd, a1, a2, fun i x hx => by have := a3 i x hx; rw [Nat.zero_add] at this; exact this⟩, F1⟩)
  · rw [Nat.zero_add] at hd
    exact And.intro (Or.inl rfl) (Or.inl ⟨Or.inr ⟨rfl, hd⟩, F1⟩)
theorem imX4_write {l : Launch} {Z : ZT} (hZ : ZOk Z) : Impl l Z yX4_write cX4_write 2 (some .boolean) 31 (c_wrP (zN Z)) := mkImpl (rt := 2) (CL := [(31, some 4, (c_wrN (zN Z) 12))]) hZ.1 hZ.2.1 (by decide +kernel) kX4_write fwX4 iwX4 lwX4 trivial (Nat.le_of_ble_eq_true rfl) (List.forall_mem_cons.mpr ⟨gX4_31 hZ (by decide), fun q h => absurd h List.not_mem_nil⟩) ((v_wrP (zN Z)))
theorem gX7_282 {l : Launch} {Z : ZT} (hZ : ZOk Z) {d : Nat} (hd : 32 ≤ d) : CallI l Z RX7 d (282, some 4, (c_wrP (zN Z))) := fun p e s m args below meth c Q cc nL x0 X => callOk_V X (imX4_write hZ) (by decide) rfl mlX7_282 iw_yX4_write vw_yX4_write nw_RX4 cw_yX4_write ⟨by decide +kernel, by decide +kernel, show (parseMethodDescriptor yX4_write.desc).map (fun d => d.parameters.length) = some 1 by decide +kernel⟩ ⟨hd, by decide⟩
def c_proveX (n : Nn) : Call := ⟨RS × WS × Int, 2, (fun (q, W, h) vs M => vs = [.inr (.inr 0), .inl h] ∧ inR h ∧ XN n M 0 q ∧ XW n M W), .inr (fun (q, W, h) _ M x M' => x = (prvF n q W h).1 ∧ XW n M' (prvF n q W h).2 ∧ XN n M' 0 q ∧ ∀ o, (o < 43 ∨ o = 45 ∨ o = 46 ∨ 49 < o) → M' o = M o)⟩
theorem v_proveX (n : Nn) : Ver tX7_prove (fdX7, icX7, lcX7, [(100, some 1, c_isLiveX n), (123, some 1, c_limbOf n), (279, none, c_isPrX), (282, some 4, c_wrP n), (288, some 2, c_copyW n)]) 1 3 n (c_proveX n) := by
  rintro ⟨q, W, h⟩ vs M0 ⟨rfl, ih, R, hW⟩ aw run
  have l5 : lnF n 5 = n.1 := rfl
  have h3 := hW.2.2.1
  change aw 0 [some (.inr (.inr 0)), some (.inl h), none] [] M0
  refine run 90 [] _ _ _ _ ?_
  refine And.intro rfl (And.intro rfl ⟨(0, q, h), ⟨rfl, ih, R⟩, ?_⟩)
  rintro x M0 ⟨⟨rfl, hh⟩ | ⟨rfl, hh⟩, rfl⟩
  rotate_left
  · refine And.intro ⟨⟨by omega, by omega⟩, ⟨by omega, by omega⟩⟩ (And.intro (fun c1 => absurd c1 (by omega)) (fun _ => ?_))
    refine Or.inl ?_
    show -2 = (prvF n q W h).1 ∧ XW n M0 (prvF n q W h).2 ∧ XN n M0 0 q ∧ ∀ o, (o < 43 ∨ o = 45 ∨ o = 46 ∨ 49 < o) → M0 o = M0 o
    rw [show prvF n q W h = (-2, W) from if_neg hh]
    exact ⟨rfl, hW, R, fun _ _ => rfl⟩
  refine And.intro ⟨⟨by omega, by omega⟩, ⟨by omega, by omega⟩⟩ (And.intro (fun _ => ?_) (fun c2 => absurd c2 (by omega)))
  obtain ⟨h, rfl, h_1, h_2⟩ := hh.nat
  have A := R.at h_1 h_2
  have e : prvF n q W h = (if 2 < nd (q.2.2.2 h) then (-3, W) else if prB (q.2.2.2 h) = true then (if crD 12 (q.2.2.2 h) = true ∨ n.2.2 < (crW 12 (q.2.2.2 h)).length then (-9, W) else (((crW 12 (q.2.2.2 h)).length : Int), ((crW 12 (q.2.2.2 h)).length, fun i => (crW 12 (q.2.2.2 h)).getD i 0))) else (0, W)) := if_pos (Lv.of h_1 h_2)
  refine And.intro rfl (And.intro rfl (And.intro ⟨rfl, by omega, by omega⟩ ?_))
  conv => whnf
  rw [Int.toNat_natCast, A.2.2.2.2.1]
  refine And.intro ⟨⟨by omega, by omega⟩, ⟨by omega, by omega⟩⟩ (And.intro (fun c1 => ?_) (fun c2 => ?_))
  rotate_left
  · refine Or.inl ?_
    show -3 = (prvF n q W h).1 ∧ XW n M0 (prvF n q W h).2 ∧ XN n M0 0 q ∧ ∀ o, (o < 43 ∨ o = 45 ∨ o = 46 ∨ 49 < o) → M0 o = M0 o
    rw [e, if_pos (by omega)]
    exact ⟨rfl, hW, R, fun _ _ => rfl⟩
  rw [if_neg (by omega)] at e
  have hv := two_dg (v := q.2.2.2 h) (by omega)
  have g0 := dg_lt (q.2.2.2 h) 0
  have g1 := dg_lt (q.2.2.2 h) 1
  refine And.intro rfl (And.intro rfl ⟨(0, q, h, 0), ⟨rfl, ⟨by omega, by omega⟩, h_1, h_2, R⟩, ?_⟩)
  rintro x M0 ⟨rfl, rfl⟩
  refine And.intro rfl (And.intro rfl ⟨(0, q, h, 1), ⟨rfl, ⟨by omega, by omega⟩, h_1, h_2, R⟩, ?_⟩)
  rintro x M0 ⟨rfl, rfl⟩
  refine And.intro ⟨by omega, by omega⟩ ?_
  conv => whnf
  have ev : dgZ (q.2.2.2 h) 0 + dgZ (q.2.2.2 h) 1 * 2 ^ ((15 : Int)).toNat = ((q.2.2.2 h : Nat) : Int) := by
    rw [show (0 : Int) = ((0 : Nat) : Int) from rfl, show (1 : Int) = ((1 : Nat) : Int) from rfl, dgZ_n, dgZ_n, show ((2 : Int) ^ ((15 : Int)).toNat) = 32768 by decide]
    omega
  rw [ev]
  generalize hvv : q.2.2.2 h = v at *
  refine ⟨(v, 0), ⟨rfl, by omega⟩, ?_⟩
  rintro x M0 ⟨hx, rfl⟩
  rcases hx with ⟨rfl, hp⟩ | ⟨rfl, hp⟩
  rotate_left
  · refine And.intro ⟨⟨by omega, by omega⟩, ⟨by omega, by omega⟩⟩ (And.intro (fun c1 => absurd c1 (by omega)) (fun _ => ?_))
    refine Or.inl ?_
    show 0 = (prvF n q W h).1 ∧ XW n M0 (prvF n q W h).2 ∧ XN n M0 0 q ∧ ∀ o, (o < 43 ∨ o = 45 ∨ o = 46 ∨ 49 < o) → M0 o = M0 o
    rw [e, if_neg (fun z => hp (prB_i.mp z))]
    exact ⟨rfl, hW, R, fun _ _ => rfl⟩
  refine And.intro ⟨⟨by omega, by omega⟩, ⟨by omega, by omega⟩⟩ (And.intro (fun _ => ?_) (fun c2 => absurd c2 (by omega)))
  rw [if_pos (prB_i.mpr hp)] at e
  refine And.intro rfl (And.intro rfl ⟨(v, 0), ⟨rfl, hp, by omega, h3⟩, ?_⟩)
  rintro x M1 ⟨hx, hF1⟩
  have R1 : XN n M1 0 q := R.fr (fun o a b => hF1 o (by omega))
  have hW1 : XW n M1 W := hW.fr (by rw [hF1 43 (by omega)]) (hF1 44 (by omega))
  rcases hx with ⟨rfl, hd, hl, hc, hw⟩ | ⟨rfl, hd⟩
  rotate_left
  · refine And.intro ⟨⟨by omega, by omega⟩, ⟨by omega, by omega⟩⟩ (And.intro (fun c1 => absurd c1 (by omega)) (fun _ => ?_))
    refine Or.inl ?_
    show -9 = (prvF n q W h).1 ∧ XW n M1 (prvF n q W h).2 ∧ XN n M1 0 q ∧ ∀ o, (o < 43 ∨ o = 45 ∨ o = 46 ∨ 49 < o) → M1 o = M0 o
    rw [e, if_pos hd]
    exact ⟨rfl, hW1, R1, fun o ho => hF1 o (by omega)⟩
  refine And.intro ⟨⟨by omega, by omega⟩, ⟨by omega, by omega⟩⟩ (And.intro (fun _ => ?_) (fun c2 => absurd c2 (by omega)))
  rw [if_neg (fun z => by rcases z with z | z; rw [hd] at z; cases z; omega)] at e
  refine And.intro rfl (And.intro rfl (And.intro rfl (And.intro rfl (And.intro rfl ?_))))
  conv => whnf
  rw [hc]
  refine And.intro rfl ⟨(crW 12 v, 0), ⟨rfl, hl, h3, fun i x hx => ⟨hw i x hx, crW_r 12 v hp (by omega) x (List.mem_of_getElem? hx)⟩⟩, ?_⟩
  rintro M2 ⟨hW2, hF2⟩
  have c2 : M2 43 1 = ((crW 12 v).length : Int) := hW2.1
  refine And.intro rfl (And.intro rfl (Or.inl ?_))
  show M2 43 1 = (prvF n q W h).1 ∧ XW n M2 (prvF n q W h).2 ∧ XN n M2 0 q ∧ ∀ o, (o < 43 ∨ o = 45 ∨ o = 46 ∨ 49 < o) → M2 o = M0 o
  rw [e]
  exact ⟨c2, hW2, R1.fr (fun o a b => hF2 o (by omega) (by omega)), fun o ho => by rw [hF2 o (by omega) (by omega)]; exact hF1 o (by omega)⟩
theorem imX7_prove {l : Launch} {Z : ZT} (hZ : ZOk Z) : Impl l Z yX7_prove cX7_prove 3 (some .int) 32 (c_proveX (zN Z)) := mkImpl (rt := 1) (CL := [(100, some 1, (c_isLiveX (zN Z))), (123, some 1, (c_limbOf (zN Z))), (279, none, c_isPrX), (282, some 4, (c_wrP (zN Z))), (288, some 2, (c_copyW (zN Z)))]) hZ.1 hZ.2.1 (by decide +kernel) kX7_prove fwX7 iwX7 lwX7 trivial (Nat.le_of_ble_eq_true rfl) (List.forall_mem_cons.mpr ⟨gX7_100 hZ (by decide), List.forall_mem_cons.mpr ⟨gX7_123 hZ (by decide), List.forall_mem_cons.mpr ⟨gX7_279 hZ (by decide), List.forall_mem_cons.mpr ⟨gX7_282 hZ (by decide), List.forall_mem_cons.mpr ⟨gX7_288 hZ (by decide), fun q h => absurd h List.not_mem_nil⟩⟩⟩⟩⟩) ((v_proveX (zN Z)))
