/-! ===== the class: certificates made ===== -/
/-- the factors l stand from f on -/
def FcS (M : Mem) (f : Nat) (l : List Nat) : Prop := ∀ i q : Nat, l[i]? = some q → M 49 (f + i) = (q : Int)
theorem LD.I {n left q L : Nat} (h : FcI n left q) (hL : LD left L) : q ≤ L ∧ FcI n left L := by
  have hd := Nat.dvd_of_mod_eq_zero hL.2.2.1
  have g := h.2.2.1 L hL.pr hd
  refine ⟨g, h.1, h.2.1, fun r hr hd => ?_, fun r hr hle => h.2.2.2 r hr (by omega)⟩
  refine Nat.le_of_not_lt (fun c => ?_)
  exact hL.2.2.2 r hr.1 c (Nat.mod_eq_zero_of_dvd hd)
def c_findF : Call := ⟨Nat × Nat, 3, (fun (v, f) vs _ => vs = [.inr (.inr 47), .inl (v : Int), .inl (f : Int)] ∧ 1 ≤ v ∧ v < 1073741824 ∧ f + 9 ≤ 108), .inr (fun (v, f) _ M x M' => x = ((f + (fs v).length : Nat) : Int) ∧ FcS M' f (fs v) ∧ (∀ o, o ≠ 49 → M' o = M o) ∧ ∀ j, j < f → M' 49 j = M 49 j)⟩
theorem v_findF (n : Nn) : Ver tX4_findFactors (fdX4, icX4, lcX4, [(18, none, c_leastF), (52, none, c_expOf)]) 1 7 n c_findF := by
  rintro ⟨v, f⟩ vs M0 ⟨rfl, v1, vl, hf⟩ aw run
  have l49 : lnF n 49 = 108 := rfl
  have h9 := fs_9 v1 vl
  have outer : ∀ (m left fac Q k : Nat) (D FR : List Nat) (M : Mem) (o6 : Option AV), FR.length = m → D ++ FR = fs v → D.length = k → FcI v left Q → FR = pdv v Q (v + 1 - Q) → (fac = 2 ∨ (fac % 2 = 1 ∧ 3 ≤ fac)) → fac ≤ Q → 2 ≤ Q → fac < 1073741824 → FcS M f D → (∀ o, o ≠ 49 → M o = M0 o) → (∀ j, j < f → M 49 j = M0 49 j) → aw 8 [some (.inr (.inr 47)), some (.inl (v : Int)), some (.inl (f : Int)), some (.inl (left : Int)), some (.inl (fac : Int)), some (.inl ((f + k : Nat) : Int)), o6] [] M := by
    intro m
    induction m with
    | zero =>
      intro left fac Q k D FR M o6 hm hD hk hI hFR hfac hfQ hQ2 hfl hS hF1 hF2
      have hFR0 : FR = [] := List.length_eq_zero_iff.mp hm
      have i1 := hI.1
      have i2 := hI.2.1
      have hl : left = 1 := by
        by_cases c : left = 1
        · exact c
        · obtain ⟨r, r1, r2⟩ := Pr.ex left (by omega)
          have g := hI.2.2.1 r r1 r2
          have rv := (hI.2.2.2 r r1 g).1.mp r2
          have : r ∈ FR := by
            rw [hFR, pd_mem]
            have := Nat.le_of_dvd (by omega) rv
            exact ⟨g, by omega, r1, Nat.mod_eq_zero_of_dvd rv⟩
          rw [hFR0] at this
          exact absurd this List.not_mem_nil
      subst hl
      rw [hFR0, List.append_nil] at hD
      refine run 60 [8] _ _ _ _ ?_
      refine And.intro ⟨⟨by omega, by omega⟩, ⟨by omega, by omega⟩⟩ (And.intro (fun _ => ?_) (fun c2 => absurd c2 (by omega)))
      refine Or.inl ⟨?_, ?_, hF1, hF2⟩
      · show ((f + k : Nat) : Int) = ((f + (fs v).length : Nat) : Int)
        rw [← hD, hk]
      · rw [← hD]
        exact hS
    | succ m ih =>
      intro left fac Q k D FR M o6 hm hD hk hI hFR hfac hfQ hQ2 hfl hS hF1 hF2
      have i1 := hI.1
      have i2 := hI.2.1
      have hkm : k + (m + 1) = (fs v).length := by rw [← hD, List.length_append, hk, hm]
      have hl : 2 ≤ left := by
        refine Nat.le_of_not_lt (fun c => ?_)
        have hl : left = 1 := by omega
        have : FR = [] := by
          rw [hFR]
          refine pd_none (fun j hj hz => ?_)
          have := (hI.2.2.2 j hz.1 hj).1.mpr (Nat.dvd_of_mod_eq_zero hz.2)
          rw [hl] at this
          have := Nat.le_of_dvd (by decide) this
          have := hz.1.1
          omega
        rw [this] at hm
        simp at hm
      refine run 60 [8, 48] _ _ _ _ ?_
      refine And.intro ⟨⟨by omega, by omega⟩, ⟨by omega, by omega⟩⟩ (And.intro (fun c1 => absurd c1 (by omega)) (fun _ => ?_))
      refine And.intro ⟨⟨by omega, by omega⟩, ⟨by omega, by omega⟩⟩ (And.intro (fun c1 => absurd c1 (by omega)) (fun _ => ?_))
      refine And.intro rfl (And.intro rfl ?_)
      refine And.intro ⟨⟨by omega, by omega⟩, ⟨by omega, by omega⟩⟩ (And.intro (fun c1 => absurd c1 (by omega)) (fun _ => ?_))
      refine ⟨(left, fac), ⟨rfl, hl, by omega, hfac, by omega, fun d d1 d2 d3 => ?_⟩, ?_⟩
      · obtain ⟨r, r1, r2⟩ := Pr.ex d d1
        have g := hI.2.2.1 r r1 (Nat.dvd_trans r2 (Nat.dvd_of_mod_eq_zero d3))
        have := Nat.le_of_dvd (by omega) r2
        omega
      rintro x M ⟨⟨L, rfl, hL⟩, rfl⟩
      obtain ⟨gL, hIL⟩ := hL.I hI
      have hLp := hL.pr
      have l1 := hL.1
      have l2 := hL.2.1
      refine ⟨(L, left), ⟨rfl, l1, by omega, by omega, by omega⟩, ?_⟩
      rintro x M ⟨rfl, rfl⟩
      refine And.intro ?_ trivial
      have hFR1 : FR = L :: pdv v (L + 1) (v + 1 - (L + 1)) := by
        rw [hFR, show v + 1 - Q = (L - Q) + ((v + 1 - (L + 1)) + 1) by omega]
        rw [pd_skip (fun j hj1 hj2 hz => ?_), show Q + (L - Q) = L by omega]
        · refine pd_hit hLp ?_
          exact Nat.mod_eq_zero_of_dvd ((hI.2.2.2 L hLp gL).1.mp (Nat.dvd_of_mod_eq_zero hL.2.2.1))
        · have := (hI.2.2.2 j hz.1 hj1).1.mpr (Nat.dvd_of_mod_eq_zero hz.2)
          exact hL.2.2.2 j hz.1.1 (by omega) (Nat.mod_eq_zero_of_dvd this)
      have inner : ∀ (e lf : Nat), exF L lf = e → FcJ v lf L → aw 48 [some (.inr (.inr 47)), some (.inl (v : Int)), some (.inl (f : Int)), some (.inl (lf : Int)), some (.inl (L : Int)), some (.inl ((f + k : Nat) : Int)), some (.inl (e : Int))] [] M := by
        intro e
        induction e with
        | zero =>
          intro lf he hJ
          have j1 := hJ.1
          have hm0 : lf % L ≠ 0 := fun z => by
            have := exF_s l1 (by omega) z
            omega
          refine run 60 [8, 48] _ _ _ _ ?_
          refine And.intro ⟨⟨by omega, by omega⟩, ⟨by omega, by omega⟩⟩ (And.intro (fun _ => ?_) (fun c2 => absurd c2 (by omega)))
          refine And.intro rfl (And.intro ⟨rfl, by omega, by omega⟩ (And.intro ?_ trivial))
          rw [Int.toNat_natCast, show ((f + k : Nat) : Int) + 1 = ((f + (k + 1) : Nat) : Int) by omega]
          rw [hFR1] at hD hm
          refine ih lf L (L + 1) (k + 1) (D ++ [L]) _ _ _ (by simpa using hm) (by rw [List.append_assoc]; exact hD) (by rw [List.length_append, hk]; rfl) (hJ.I hm0) rfl ?_ (by omega) (by omega) (by omega) (fun i q hq => ?_) (fun o ho => by rw [up2_i ho]; exact hF1 o ho) (fun j hj => by rw [up2_k (by omega)]; exact hF2 j hj)
          · by_cases c : L = 2
            · exact Or.inl c
            · refine Or.inr ⟨?_, by omega⟩
              have := hLp.2 2 (by omega) (by omega)
              omega
          · by_cases c : i < D.length
            · rw [List.getElem?_append_left c] at hq
              rw [up2_k (by omega)]
              exact hS i q hq
            · rw [List.getElem?_append_right (by omega)] at hq
              have hi : i = D.length := by
                refine Nat.le_antisymm (Nat.le_of_not_lt (fun z => ?_)) (by omega)
                rw [List.getElem?_eq_none (by simp; omega)] at hq
                cases hq
              rw [hi, Nat.sub_self] at hq
              have e : L = q := by simpa using hq
              rw [hi, hk, up2_s, e]
        | succ e ihe =>
          intro lf he hJ
          have j1 := hJ.1
          have j2 := hJ.2.1
          have hm0 : lf % L = 0 := by
            by_cases c : lf % L = 0
            · exact c
            · rw [exF_0 c] at he
              omega
          have hs := exF_s l1 (by omega) hm0
          have hel : exF L lf < 30 := lt_pw (exF_le l1 lf (by omega)) (by omega)
          refine run 60 [8, 48] _ _ _ _ ?_
          refine And.intro ⟨⟨by omega, by omega⟩, ⟨by omega, by omega⟩⟩ (And.intro (fun c1 => absurd c1 (by omega)) (fun _ => ?_))
          refine And.intro ⟨⟨by omega, by omega⟩, ⟨by omega, by omega⟩⟩ (And.intro (fun c1 => absurd c1 (by omega)) (fun _ => ?_))
          refine And.intro ⟨by omega, by omega, ⟨by omega, by omega⟩, ⟨by omega, by omega⟩⟩ (And.intro ?_ trivial)
          rw [← Int.natCast_ediv, show ((e + 1 : Nat) : Int) + -1 = (e : Int) by omega]
          exact ihe (lf / L) (by omega) (hJ.dv hLp hm0)
      exact inner (exF L left) left rfl hIL.J
  change aw 0 [some (.inr (.inr 47)), some (.inl (v : Int)), some (.inl (f : Int)), none, none, none, none] [] M0
  refine run 60 [8] _ _ _ _ ?_
  refine And.intro ?_ trivial
  refine outer (fs v).length v 2 2 0 [] (fs v) M0 none rfl rfl rfl (FcI.z v1) ?_ (Or.inl rfl) (Nat.le_refl _) (Nat.le_refl _) (by omega) (fun i q hq => by simp at hq) (fun _ _ => rfl) (fun _ _ => rfl)
  unfold fs
  rw [show v + 1 - 2 = v - 1 by omega]
theorem imX4_findFactors {l : Launch} {Z : ZT} (hZ : ZOk Z) : Impl l Z yX4_findFactors cX4_findFactors 7 (some .int) 3 c_findF := mkImpl (rt := 1) (CL := [(18, none, c_leastF), (52, none, c_expOf)]) hZ.1 hZ.2.1 (by decide +kernel) kX4_findFactors fwX4 iwX4 lwX4 trivial (Nat.le_of_ble_eq_true rfl) (List.forall_mem_cons.mpr ⟨gX4_18 hZ (by decide), List.forall_mem_cons.mpr ⟨gX4_52 hZ (by decide), fun q h => absurd h List.not_mem_nil⟩⟩) ((v_findF _))
theorem gX4_42 {l : Launch} {Z : ZT} (hZ : ZOk Z) {d : Nat} (hd : 4 ≤ d) : CallI l Z RX4 d (42, some 4, c_findF) := fun p e s m args below meth c Q cc nL x0 X => callOk_V X (imX4_findFactors hZ) (by decide) rfl mlX4_42 iw_yX4_findFactors vw_yX4_findFactors nw_RX4 cw_yX4_findFactors ⟨by decide +kernel, by decide +kernel, by decide +kernel⟩ ⟨hd, by decide⟩
def c_isWit : Call := ⟨Nat × Nat × Nat × List Nat, 5, (fun (w, p, f, l) vs M => vs = [.inr (.inr 47), .inl (w : Int), .inl (p : Int), .inl (f : Int), .inl ((f + l.length : Nat) : Int)] ∧ w < 1073741824 ∧ 2 ≤ p ∧ p < 1073741824 ∧ f + l.length ≤ 108 ∧ FcS M f l ∧ ∀ q ∈ l, 2 ≤ q ∧ q < 1073741824), .inr (fun (w, p, _, l) _ M x M' => ((x = 1 ∧ ∀ q ∈ l, w ^ ((p - 1) / q) % p ≠ 1) ∨ (x = 0 ∧ ¬ ∀ q ∈ l, w ^ ((p - 1) / q) % p ≠ 1)) ∧ M' = M)⟩
theorem v_isWit (n : Nn) : Ver tX4_isWitness (fdX4, icX4, lcX4, [(59, none, c_powM)]) 2 6 n c_isWit := by
  rintro ⟨w, p, f, l⟩ vs M0 ⟨rfl, hw, hp1, hp2, hfl, hS, hl⟩ aw run
  have l49 : lnF n 49 = 108 := rfl
  have loop : ∀ (m k : Nat), k + m = l.length → (∀ i q, i < k → l[i]? = some q → w ^ ((p - 1) / q) % p ≠ 1) → aw 3 [some (.inr (.inr 47)), some (.inl (w : Int)), some (.inl (p : Int)), some (.inl (f : Int)), some (.inl ((f + l.length : Nat) : Int)), some (.inl ((f + k : Nat) : Int))] [] M0 := by
    intro m
    induction m with
    | zero =>
      intro k hk hA
      refine run 60 [3] _ _ _ _ ?_
      refine And.intro ⟨⟨by omega, by omega⟩, ⟨by omega, by omega⟩⟩ (And.intro (fun _ => ?_) (fun c2 => absurd c2 (by omega)))
      refine And.intro (Or.inr rfl) (Or.inl ⟨Or.inl ⟨rfl, fun q hq => ?_⟩, rfl⟩)
      obtain ⟨i, hi⟩ := List.getElem?_of_mem hq
      exact hA i q (by have := (List.getElem?_eq_some_iff.mp hi).1; omega) hi
    | succ m ih =>
      intro k hk hA
      obtain ⟨q, hq⟩ : ∃ q, l[k]? = some q := ⟨_, List.getElem?_eq_getElem (by omega)⟩
      have hql := hl q (List.mem_of_getElem? hq)
      have e49 := hS k q hq
      have ed : ((p : Int) - 1) / (q : Int) = (((p - 1) / q : Nat) : Int) := by
        rw [Int.natCast_ediv, show (p : Int) - 1 = ((p - 1 : Nat) : Int) by omega]
      have hdl := Nat.div_le_self (p - 1) q
      have hml := Nat.mod_lt (w ^ ((p - 1) / q)) (show 0 < p by omega)
      refine run 60 [3] _ _ _ _ ?_
      refine And.intro ⟨⟨by omega, by omega⟩, ⟨by omega, by omega⟩⟩ (And.intro (fun c1 => absurd c1 (by omega)) (fun _ => ?_))
      refine And.intro rfl (And.intro ⟨rfl, by omega, by omega⟩ ?_)
      conv => whnf
      rw [Int.toNat_natCast, e49]
      refine And.intro ⟨⟨by omega, by omega⟩, ⟨by omega, by omega⟩⟩ (And.intro (fun c1 => absurd c1 (by omega)) (fun _ => ?_))
      refine And.intro rfl (And.intro ⟨rfl, by omega, by omega⟩ ?_)
      conv => whnf
      rw [Int.toNat_natCast, e49]
      refine And.intro ⟨by omega, by omega, ⟨by omega, by omega⟩, ⟨by omega, by omega⟩⟩ ?_
      conv => whnf
      rw [ed]
      refine ⟨(w, (p - 1) / q, p), ⟨rfl, by omega, by omega, by omega, by omega⟩, ?_⟩
      rintro x M0 ⟨rfl, rfl⟩
      by_cases c : w ^ ((p - 1) / q) % p = 1
      · rw [c]
        refine And.intro ⟨⟨by omega, by omega⟩, ⟨by omega, by omega⟩⟩ (And.intro (fun c1 => absurd c1 (by omega)) (fun _ => ?_))
        exact And.intro (Or.inl rfl) (Or.inl ⟨Or.inr ⟨rfl, fun z => z q (List.mem_of_getElem? hq) c⟩, rfl⟩)
      · obtain ⟨y, ey⟩ : ∃ y, y = w ^ ((p - 1) / q) % p := ⟨_, rfl⟩
        have hA2 : ∀ i q : Nat, i < k + 1 → l[i]? = some q → w ^ ((p - 1) / q) % p ≠ 1 := by
          intro i q2 hi hq2
          by_cases d : i = k
          · rw [d] at hq2
            have e : q = q2 := Option.some.inj (hq.symm.trans hq2)
            rw [← e]
            exact c
          · exact hA i q2 (by omega) hq2
        rw [← ey] at c hml ⊢
        clear hA ey
        refine And.intro ⟨⟨by omega, by omega⟩, ⟨by omega, by omega⟩⟩ (And.intro (fun _ => ?_) (fun c2 => absurd c2 (by omega)))
        refine And.intro ?_ trivial
        rw [show ((f + k : Nat) : Int) + 1 = ((f + (k + 1) : Nat) : Int) by omega]
        exact ih (k + 1) (by omega) hA2
  change aw 0 [some (.inr (.inr 47)), some (.inl (w : Int)), some (.inl (p : Int)), some (.inl (f : Int)), some (.inl ((f + l.length : Nat) : Int)), none] [] M0
  refine run 60 [3] _ _ _ _ ?_
  exact And.intro (loop l.length 0 (by omega) (fun i q hi => by omega)) trivial
theorem imX4_isWitness {l : Launch} {Z : ZT} (hZ : ZOk Z) : Impl l Z yX4_isWitness cX4_isWitness 6 (some .boolean) 2 c_isWit := mkImpl (rt := 2) (CL := [(59, none, c_powM)]) hZ.1 hZ.2.1 (by decide +kernel) kX4_isWitness fwX4 iwX4 lwX4 trivial (Nat.le_of_ble_eq_true rfl) (List.forall_mem_cons.mpr ⟨gX4_59 hZ (by decide), fun q h => absurd h List.not_mem_nil⟩) ((v_isWit _))
theorem gX4_55 {l : Launch} {Z : ZT} (hZ : ZOk Z) {d : Nat} (hd : 3 ≤ d) : CallI l Z RX4 d (55, some 4, c_isWit) := fun p e s m args below meth c Q cc nL x0 X => callOk_V X (imX4_isWitness hZ) (by decide) rfl mlX4_55 iw_yX4_isWitness vw_yX4_isWitness nw_RX4 cw_yX4_isWitness ⟨by decide +kernel, by decide +kernel, by decide +kernel⟩ ⟨hd, by decide⟩
theorem wit_i {p w : Nat} (hp : Pr p) (h1 : 1 ≤ w) (h2 : w < p) : Wit p w ↔ ∀ q ∈ fs (p - 1), w ^ ((p - 1) / q) % p ≠ 1 := by
  have p2 := hp.1
  constructor
  · intro z q hq
    have := (fs_mem (by omega)).mp hq
    exact z.2 q this.1 this.2
  · intro z
    refine ⟨fermat hp (fun d => ?_), fun q a b => z q ((fs_mem (by omega)).mpr ⟨a, b⟩)⟩
    have := Nat.le_of_dvd (by omega) d
    omega
def c_leastW : Call := ⟨Nat × Nat, 4, (fun (p, f) vs M => vs = [.inr (.inr 47), .inl (p : Int), .inl (f : Int), .inl ((f + (fs (p - 1)).length : Nat) : Int)] ∧ Pr p ∧ p < 1073741824 ∧ f + (fs (p - 1)).length ≤ 108 ∧ FcS M f (fs (p - 1))), .inr (fun (p, _) _ M x M' => x = (lw p : Int) ∧ M' = M)⟩
theorem v_leastW (n : Nn) : Ver tX4_leastWitness (fdX4, icX4, lcX4, [(55, some 4, c_isWit)]) 1 5 n c_leastW := by
  rintro ⟨p, f⟩ vs M0 ⟨rfl, hp, hpl, hfl, hS⟩ aw run
  have p2 := hp.1
  obtain ⟨w1, w2, w3, w4⟩ := lw_s hp
  have hq : ∀ q ∈ fs (p - 1), 2 ≤ q ∧ q < 1073741824 := by
    intro q hq
    have := (fs_mem (by omega)).mp hq
    have h2 := this.1.1
    have := Nat.le_of_dvd (by omega) this.2
    omega
  have loop : ∀ (m w : Nat), 1 ≤ w → w + m = lw p → aw 3 [some (.inr (.inr 47)), some (.inl (p : Int)), some (.inl (f : Int)), some (.inl ((f + (fs (p - 1)).length : Nat) : Int)), some (.inl (w : Int))] [] M0 := by
    intro m
    induction m with
    | zero =>
      intro w hw1 hwe
      obtain rfl : w = lw p := by omega
      refine run 60 [3] _ _ _ _ ?_
      refine And.intro ⟨⟨by omega, by omega⟩, ⟨by omega, by omega⟩⟩ (And.intro (fun c1 => absurd c1 (by omega)) (fun _ => ?_))
      refine And.intro rfl ⟨(lw p, p, f, fs (p - 1)), ⟨rfl, by omega, p2, hpl, hfl, hS, hq⟩, ?_⟩
      rintro x M0 ⟨hx, rfl⟩
      rw [← wit_i hp w2 w3] at hx
      rcases hx with ⟨rfl, hx⟩ | ⟨rfl, hx⟩
      · refine And.intro ⟨⟨by omega, by omega⟩, ⟨by omega, by omega⟩⟩ (And.intro (fun c1 => absurd c1 (by omega)) (fun _ => ?_))
        exact Or.inl ⟨rfl, rfl⟩
      · exact absurd w1 hx
    | succ m ih =>
      intro w hw1 hwe
      refine run 60 [3] _ _ _ _ ?_
      refine And.intro ⟨⟨by omega, by omega⟩, ⟨by omega, by omega⟩⟩ (And.intro (fun c1 => absurd c1 (by omega)) (fun _ => ?_))
      refine And.intro rfl ⟨(w, p, f, fs (p - 1)), ⟨rfl, by omega, p2, hpl, hfl, hS, hq⟩, ?_⟩
      rintro x M0 ⟨hx, rfl⟩
      rw [← wit_i hp hw1 (by omega)] at hx
      rcases hx with ⟨rfl, hx⟩ | ⟨rfl, hx⟩
      · exact absurd hx (w4 w hw1 (by omega))
      · refine And.intro ⟨⟨by omega, by omega⟩, ⟨by omega, by omega⟩⟩ (And.intro (fun _ => ?_) (fun c2 => absurd c2 (by omega)))
        refine And.intro ?_ trivial
        rw [show (w : Int) + 1 = ((w + 1 : Nat) : Int) by omega]
        exact ih (w + 1) (by omega) (by omega)
  change aw 0 [some (.inr (.inr 47)), some (.inl (p : Int)), some (.inl (f : Int)), some (.inl ((f + (fs (p - 1)).length : Nat) : Int)), none] [] M0
  refine run 60 [3] _ _ _ _ ?_
  exact And.intro (loop (lw p - 1) 1 (Nat.le_refl _) (by omega)) trivial
theorem imX4_leastWitness {l : Launch} {Z : ZT} (hZ : ZOk Z) : Impl l Z yX4_leastWitness cX4_leastWitness 5 (some .int) 3 c_leastW := mkImpl (rt := 1) (CL := [(55, some 4, c_isWit)]) hZ.1 hZ.2.1 (by decide +kernel) kX4_leastWitness fwX4 iwX4 lwX4 trivial (Nat.le_of_ble_eq_true rfl) (List.forall_mem_cons.mpr ⟨gX4_55 hZ (by decide), fun q h => absurd h List.not_mem_nil⟩) ((v_leastW _))
theorem gX4_45 {l : Launch} {Z : ZT} (hZ : ZOk Z) {d : Nat} (hd : 4 ≤ d) : CallI l Z RX4 d (45, some 4, c_leastW) := fun p e s m args below meth c Q cc nL x0 X => callOk_V X (imX4_leastWitness hZ) (by decide) rfl mlX4_45 iw_yX4_leastWitness vw_yX4_leastWitness nw_RX4 cw_yX4_leastWitness ⟨by decide +kernel, by decide +kernel, by decide +kernel⟩ ⟨hd, by decide⟩
/-- of the prover the draft may have changed, and the factors from f on -/
def FPr (M M' : Mem) (f : Nat) : Prop := (∀ o, o ≠ 47 → o ≠ 48 → o ≠ 49 → M' o = M o) ∧ ∀ j, j < f → M' 49 j = M 49 j
theorem FPr.rf (M : Mem) (f : Nat) : FPr M M f := ⟨fun _ _ _ _ => rfl, fun _ _ => rfl⟩
theorem FPr.tr {M M1 M2 : Mem} {f g : Nat} (h : FPr M M1 f) (h2 : FPr M1 M2 g) (hg : f ≤ g) : FPr M M2 f := ⟨fun o a b c => (h2.1 o a b c).trans (h.1 o a b c), fun j a => (h2.2 j (by omega)).trans (h.2 j a)⟩
/-- the words l stand in the draft from c on -/
def DrO (n : Nn) (M M' : Mem) (c : Nat) (l : List Int) : Prop := c + l.length ≤ n.2.2 ∧ M' 47 1 = ((c + l.length : Nat) : Int) ∧ (∀ i x, l[i]? = some x → M' 48 (c + i) = x) ∧ ∀ i, i < c → M' 48 i = M 48 i
theorem DrO.app {n : Nn} {M M1 M2 : Mem} {c : Nat} {A B : List Int} (h : DrO n M M1 c A) (h2 : DrO n M1 M2 (c + A.length) B) : DrO n M M2 c (A ++ B) := by
  obtain ⟨a1, a2, a3, a4⟩ := h
  obtain ⟨b1, b2, b3, b4⟩ := h2
  refine ⟨by rw [List.length_append]; omega, by rw [List.length_append, ← Nat.add_assoc]; exact b2, fun i x hx => ?_, fun i hi => by rw [b4 i (by omega)]; exact a4 i hi⟩
  by_cases d : i < A.length
  · rw [List.getElem?_append_left d] at hx
    rw [b4 (c + i) (by omega)]
    exact a3 i x hx
  · rw [List.getElem?_append_right (by omega)] at hx
    have := b3 _ x hx
    rw [show c + A.length + (i - A.length) = c + i by omega] at this
    exact this
/-- the draft's answer: written, or no room -/
def DrA (n : Nn) (M M' : Mem) (c : Nat) (l : List Int) (x : Int) : Prop := (x = 1 ∧ DrO n M M' c l) ∨ (x = 0 ∧ n.2.2 < c + l.length)
def c_putX (n : Nn) : Call := ⟨Nat × Int, 2, (fun (c, v) vs M => vs = [.inr (.inr 47), .inl v] ∧ M 47 1 = (c : Int) ∧ c ≤ n.2.2 ∧ n.2.2 ≤ 400), .inr (fun (c, v) _ M x M' => DrA n M M' c [v] x ∧ (∀ o, o ≠ 47 → o ≠ 48 → M' o = M o))⟩
theorem v_putX (n : Nn) : Ver tX4_put (fdX4, icX4, lcX4, []) 2 2 n (c_putX n) := by
  rintro ⟨c, v⟩ vs M0 ⟨rfl, h1, h2, h3⟩ aw run
  have l48 : lnF n 48 = n.2.2 := rfl
  change aw 0 [some (.inr (.inr 47)), some (.inl v)] [] M0
  refine run 60 [] _ _ _ _ ?_
  refine And.intro rfl (And.intro rfl (And.intro rfl ?_))
  conv => whnf
  rw [h1]
  refine And.intro ⟨⟨by omega, by omega⟩, ⟨by omega, by omega⟩⟩ (And.intro (fun c1 => ?_) (fun c2 => ?_))
  rotate_left
  · exact And.intro (Or.inl rfl) (Or.inl ⟨Or.inr ⟨rfl, by show n.2.2 < c + 1; omega⟩, fun _ _ _ => rfl⟩)
  refine And.intro rfl (And.intro rfl (And.intro ⟨rfl, by omega, by omega⟩ (And.intro rfl (And.intro rfl (And.intro (Or.inr rfl) (Or.inl ?_))))))
  have e : up2 (up2 M0 48 (M0 47 1).toNat v) 47 1 (up2 M0 48 (M0 47 1).toNat v 47 1 + 1) = up2 (up2 M0 48 c v) 47 1 ((c : Int) + 1) := by
    rw [up2_i (show 47 ≠ 48 by decide), h1, Int.toNat_natCast]
  show DrA n M0 (up2 (up2 M0 48 (M0 47 1).toNat v) 47 1 (up2 M0 48 (M0 47 1).toNat v 47 1 + 1)) c [v] 1 ∧ ∀ o, o ≠ 47 → o ≠ 48 → up2 (up2 M0 48 (M0 47 1).toNat v) 47 1 (up2 M0 48 (M0 47 1).toNat v 47 1 + 1) o = M0 o
  rw [e]
  refine ⟨Or.inl ⟨rfl, by show c + 1 ≤ n.2.2; omega, by rw [up2_s]; show (c : Int) + 1 = ((c + 1 : Nat) : Int); omega, fun i x hx => ?_, fun i hi => by rw [up2_i (by decide), up2_k (by omega)]⟩, fun o a b => by rw [up2_i a, up2_i b]⟩
  cases i with
  | zero =>
    have : v = x := by simpa using hx
    rw [up2_i (by decide), Nat.add_zero, up2_s, this]
  | succ i => simp at hx
theorem imX4_put {l : Launch} {Z : ZT} (hZ : ZOk Z) : Impl l Z yX4_put cX4_put 2 (some .boolean) 1 (c_putX (zN Z)) := mkImpl (rt := 2) (CL := []) hZ.1 hZ.2.1 (by decide +kernel) kX4_put fwX4 iwX4 lwX4 trivial (Nat.le_of_ble_eq_true rfl) (fun q h => absurd h List.not_mem_nil) ((v_putX (zN Z)))
theorem gX4_49 {l : Launch} {Z : ZT} (hZ : ZOk Z) {d : Nat} (hd : 2 ≤ d) : CallI l Z RX4 d (49, some 4, (c_putX (zN Z))) := fun p e s m args below meth c Q cc nL x0 X => callOk_V X (imX4_put hZ) (by decide) rfl mlX4_49 iw_yX4_put vw_yX4_put nw_RX4 cw_yX4_put ⟨by decide +kernel, by decide +kernel, show (parseMethodDescriptor yX4_put.desc).map (fun d => d.parameters.length) = some 1 by decide +kernel⟩ ⟨hd, by decide⟩
def c_putN (n : Nn) : Call := ⟨Nat × Nat, 2, (fun (c, v) vs M => vs = [.inr (.inr 47), .inl (v : Int)] ∧ v < 1073741824 ∧ M 47 1 = (c : Int) ∧ c ≤ n.2.2 ∧ n.2.2 ≤ 400), .inr (fun (c, v) _ M x M' => DrA n M M' c (numW v) x ∧ (∀ o, o ≠ 47 → o ≠ 48 → M' o = M o))⟩
theorem v_putN (n : Nn) : Ver tX4_putNumber (fdX4, icX4, lcX4, [(49, some 4, c_putX n)]) 2 4 n (c_putN n) := by
  rintro ⟨c, v⟩ vs M0 ⟨rfl, hv, h1, h2, h3⟩ aw run
  have e15 : (v : Int) / 2 ^ ((15 : Int)).toNat = ((v / 32768 : Nat) : Int) := by
    rw [show ((2 : Int) ^ ((15 : Int)).toNat) = 32768 by decide, Int.natCast_ediv]
    rfl
  have eA : bAnd (v : Int) 32767 = ((v % 32768 : Nat) : Int) := by rw [bAnd_15, Int.natCast_emod]; rfl
  change aw 0 [some (.inr (.inr 47)), some (.inl (v : Int)), none, none] [] M0
  refine run 60 [15] _ _ _ _ ?_
  refine And.intro ⟨⟨by omega, by omega⟩, by omega, by omega⟩ ?_
  conv => whnf
  rw [e15]
  have go : ∀ k : Int, numW v = [k, ((v % 32768 : Nat) : Int)] ++ (if v / 32768 = 0 then [] else [((v / 32768 : Nat) : Int)]) → aw 15 [some (.inr (.inr 47)), some (.inl (v : Int)), some (.inl ((v / 32768 : Nat) : Int)), none] [.inl k, .inr (.inr 47)] M0 := by
    intro k hk
    have hlen : 2 ≤ (numW v).length := by rw [hk, List.length_append]; show 2 ≤ 2 + _; omega
    refine run 90 [] _ _ _ _ ?_
    refine And.intro rfl ⟨(c, k), ⟨rfl, h1, h2, h3⟩, ?_⟩
    rintro x M1 ⟨hx, hF1⟩
    rcases hx with ⟨rfl, D1⟩ | ⟨rfl, D1⟩
    rotate_left
    · change n.2.2 < c + 1 at D1
      refine And.intro ⟨⟨by omega, by omega⟩, ⟨by omega, by omega⟩⟩ (And.intro (fun _ => ?_) (fun c2 => absurd c2 (by omega)))
      refine And.intro ⟨⟨by omega, by omega⟩, ⟨by omega, by omega⟩⟩ (And.intro (fun _ => ?_) (fun c2 => absurd c2 (by omega)))
      exact And.intro (Or.inl rfl) (Or.inl ⟨Or.inr ⟨rfl, by omega⟩, hF1⟩)
    refine And.intro ⟨⟨by omega, by omega⟩, ⟨by omega, by omega⟩⟩ (And.intro (fun c1 => absurd c1 (by omega)) (fun _ => ?_))
    have c1 : c + 1 ≤ n.2.2 := D1.1
    have d1 : M1 47 1 = ((c + 1 : Nat) : Int) := D1.2.1
    conv => whnf
    rw [eA]
    refine And.intro rfl ⟨(c + 1, ((v % 32768 : Nat) : Int)), ⟨rfl, d1, c1, h3⟩, ?_⟩
    rintro x M2 ⟨hx, hF2⟩
    have F2 : ∀ o, o ≠ 47 → o ≠ 48 → M2 o = M0 o := fun o a b => (hF2 o a b).trans (hF1 o a b)
    rcases hx with ⟨rfl, D2⟩ | ⟨rfl, D2⟩
    rotate_left
    · change n.2.2 < c + 1 + 1 at D2
      refine And.intro ⟨⟨by omega, by omega⟩, ⟨by omega, by omega⟩⟩ (And.intro (fun _ => ?_) (fun c2 => absurd c2 (by omega)))
      refine And.intro ⟨⟨by omega, by omega⟩, ⟨by omega, by omega⟩⟩ (And.intro (fun _ => ?_) (fun c2 => absurd c2 (by omega)))
      exact And.intro (Or.inl rfl) (Or.inl ⟨Or.inr ⟨rfl, by omega⟩, F2⟩)
    refine And.intro ⟨⟨by omega, by omega⟩, ⟨by omega, by omega⟩⟩ (And.intro (fun c1 => absurd c1 (by omega)) (fun _ => ?_))
    have D12 := D1.app D2
    change DrO n M0 M2 c [k, ((v % 32768 : Nat) : Int)] at D12
    refine And.intro ⟨⟨by omega, by omega⟩, ⟨by omega, by omega⟩⟩ (And.intro (fun c1 => absurd c1 (by omega)) (fun _ => ?_))
    by_cases hz : v / 32768 = 0
    · rw [hz]
      refine And.intro ⟨⟨by omega, by omega⟩, ⟨by omega, by omega⟩⟩ (And.intro (fun _ => ?_) (fun c2 => absurd c2 (by omega)))
      refine And.intro (Or.inr rfl) (Or.inl ⟨Or.inl ⟨rfl, ?_⟩, F2⟩)
      rw [hk, if_pos hz, List.append_nil]
      exact D12
    · rw [if_neg hz] at hk
      refine And.intro ⟨⟨by omega, by omega⟩, ⟨by omega, by omega⟩⟩ (And.intro (fun c1 => absurd c1 (by omega)) (fun _ => ?_))
      have c2 : c + 2 ≤ n.2.2 := D12.1
      have d2 : M2 47 1 = ((c + 2 : Nat) : Int) := D12.2.1
      refine And.intro rfl ⟨(c + 2, ((v / 32768 : Nat) : Int)), ⟨rfl, d2, c2, h3⟩, ?_⟩
      rintro x M3 ⟨hx, hF3⟩
      have F3 : ∀ o, o ≠ 47 → o ≠ 48 → M3 o = M0 o := fun o a b => (hF3 o a b).trans (F2 o a b)
      rcases hx with ⟨rfl, D3⟩ | ⟨rfl, D3⟩
      · refine And.intro ⟨⟨by omega, by omega⟩, ⟨by omega, by omega⟩⟩ (And.intro (fun c1 => absurd c1 (by omega)) (fun _ => ?_))
        refine And.intro (Or.inr rfl) (Or.inl ⟨Or.inl ⟨rfl, ?_⟩, F3⟩)
        rw [hk]
        exact D12.app D3
      · change n.2.2 < c + 2 + 1 at D3
        refine And.intro ⟨⟨by omega, by omega⟩, ⟨by omega, by omega⟩⟩ (And.intro (fun _ => ?_) (fun c2 => absurd c2 (by omega)))
        refine And.intro (Or.inl rfl) (Or.inl ⟨Or.inr ⟨rfl, ?_⟩, F3⟩)
        rw [hk]
        show n.2.2 < c + 3
        omega
  by_cases hz : v < 32768
  · have h0 : v / 32768 = 0 := Nat.div_eq_of_lt hz
    have hk : numW v = [1, ((v % 32768 : Nat) : Int)] ++ (if v / 32768 = 0 then [] else [((v / 32768 : Nat) : Int)]) := by
      unfold numW
      rw [if_pos hz, if_pos h0, Nat.mod_eq_of_lt hz]
      rfl
    refine And.intro ⟨⟨by omega, by omega⟩, ⟨by omega, by omega⟩⟩ (And.intro (fun _ => ?_) (fun c2 => absurd c2 (by omega)))
    exact And.intro (go 1 hk) trivial
  · have h0 : v / 32768 ≠ 0 := by omega
    have hk : numW v = [2, ((v % 32768 : Nat) : Int)] ++ (if v / 32768 = 0 then [] else [((v / 32768 : Nat) : Int)]) := by
      unfold numW
      rw [if_neg hz, if_neg h0]
      rfl
    refine And.intro ⟨⟨by omega, by omega⟩, ⟨by omega, by omega⟩⟩ (And.intro (fun c1 => absurd c1 (by omega)) (fun _ => ?_))
    exact And.intro (go 2 hk) trivial
theorem imX4_putNumber {l : Launch} {Z : ZT} (hZ : ZOk Z) : Impl l Z yX4_putNumber cX4_putNumber 4 (some .boolean) 2 (c_putN (zN Z)) := mkImpl (rt := 2) (CL := [(49, some 4, (c_putX (zN Z)))]) hZ.1 hZ.2.1 (by decide +kernel) kX4_putNumber fwX4 iwX4 lwX4 trivial (Nat.le_of_ble_eq_true rfl) (List.forall_mem_cons.mpr ⟨gX4_49 hZ (by decide), fun q h => absurd h List.not_mem_nil⟩) ((v_putN (zN Z)))
theorem gX4_35 {l : Launch} {Z : ZT} (hZ : ZOk Z) {d : Nat} (hd : 3 ≤ d) : CallI l Z RX4 d (35, some 4, (c_putN (zN Z))) := fun p e s m args below meth c Q cc nL x0 X => callOk_V X (imX4_putNumber hZ) (by decide) rfl mlX4_35 iw_yX4_putNumber vw_yX4_putNumber nw_RX4 cw_yX4_putNumber ⟨by decide +kernel, by decide +kernel, show (parseMethodDescriptor yX4_putNumber.desc).map (fun d => d.parameters.length) = some 1 by decide +kernel⟩ ⟨hd, by decide⟩
