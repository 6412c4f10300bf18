/-! ===== the primes that divide a number, one after another ===== -/
/-- how often q divides n -/
def exF (q n : Nat) : Nat := if h : 2 ≤ q ∧ n ≠ 0 ∧ n % q = 0 then exF q (n / q) + 1 else 0
termination_by n
decreasing_by exact Nat.div_lt_self (Nat.pos_of_ne_zero h.2.1) h.1
theorem exF_s {q n : Nat} (hq : 2 ≤ q) (hn : n ≠ 0) (h : n % q = 0) : exF q n = exF q (n / q) + 1 := by rw [exF, dif_pos ⟨hq, hn, h⟩]
theorem exF_0 {q n : Nat} (h : n % q ≠ 0) : exF q n = 0 := by rw [exF, dif_neg (fun z => h z.2.2)]
theorem exF_mul {r q : Nat} (hr : Pr r) (hq : Pr q) (hne : r ≠ q) : ∀ m, m ≠ 0 → exF r (q * m) = exF r m := by
  have hrq : ¬ r ∣ q := fun z => by
    have z2 := Nat.le_of_dvd (by have := hq.1; omega) z
    exact absurd (Nat.mod_eq_zero_of_dvd z) (hq.2 r hr.1 (by omega))
  intro m
  induction m using Nat.strongRecOn with
  | ind m ih =>
    intro hm
    have r2 := hr.1
    have q2 := hq.1
    have hqm : q * m ≠ 0 := fun z => by rcases Nat.mul_eq_zero.mp z with y | y <;> omega
    by_cases c : r ∣ m
    · obtain ⟨t, ht⟩ := c
      have t0 : t ≠ 0 := fun z => hm (by rw [ht, z, Nat.mul_zero])
      have tm : t < m := by
        rw [ht]
        have := Nat.mul_le_mul_right t r2
        omega
      have e1 : q * m = r * (q * t) := by rw [ht]; grind
      rw [exF_s r2 hqm (by rw [e1]; exact Nat.mul_mod_right _ _), exF_s r2 hm (by rw [ht]; exact Nat.mul_mod_right _ _), e1, ht, Nat.mul_div_cancel_left _ (by omega), Nat.mul_div_cancel_left _ (by omega), ih t tm t0]
    · have c2 : ¬ r ∣ q * m := fun z => by rcases hr.dv z with y | y; exact hrq y; exact c y
      rw [exF_0 (fun z => c (Nat.dvd_of_mod_eq_zero z)), exF_0 (fun z => c2 (Nat.dvd_of_mod_eq_zero z))]
def FcI (n left q : Nat) : Prop := 1 ≤ left ∧ left ≤ n ∧ (∀ r, Pr r → r ∣ left → q ≤ r) ∧ ∀ r, Pr r → q ≤ r → ((r ∣ left ↔ r ∣ n) ∧ exF r left = exF r n)
theorem FcI.z {n : Nat} (h : 1 ≤ n) : FcI n n 2 := ⟨h, Nat.le_refl _, fun r hr _ => hr.1, fun r _ _ => ⟨Iff.rfl, rfl⟩⟩
theorem FcI.ge {n left q : Nat} (h : FcI n left q) (hl : 1 < left) : q ≤ left := by
  obtain ⟨r, h1, h2⟩ := Pr.ex left (by omega)
  exact Nat.le_trans (h.2.2.1 r h1 h2) (Nat.le_of_dvd (by omega) h2)
theorem FcI.pr {n left q : Nat} (h : FcI n left q) (hl : 1 < left) (hq : left / q < q) : Pr left := by
  refine Pr_sq (by omega) (fun d d1 d2 d3 => ?_) hq
  obtain ⟨r, h1, h2⟩ := Pr.ex d d1
  have h3 := h.2.2.1 r h1 (Nat.dvd_trans h2 (Nat.dvd_of_mod_eq_zero d3))
  have h4 := Nat.le_of_dvd (by omega) h2
  omega
theorem FcI.jump {n left q : Nat} (h : FcI n left q) (hp : Pr left) : FcI n left left := by
  have p2 := hp.1
  have g := h.ge (by omega)
  refine ⟨h.1, h.2.1, fun r hr hd => ?_, fun r hr hle => h.2.2.2 r hr (by omega)⟩
  by_cases c : r < left
  · exact absurd (Nat.mod_eq_zero_of_dvd hd) (hp.2 r hr.1 c)
  · omega
theorem FcI.skip {n left q : Nat} (h : FcI n left q) (hm : left % q ≠ 0) : FcI n left (q + 1) := by
  refine ⟨h.1, h.2.1, fun r hr hd => ?_, fun r hr hle => h.2.2.2 r hr (by omega)⟩
  have h1 := h.2.2.1 r hr hd
  by_cases c : r = q
  · subst c
    exact absurd (Nat.mod_eq_zero_of_dvd hd) hm
  · omega
theorem FcI.dp {n left q : Nat} (h : FcI n left q) (q2 : 2 ≤ q) (hm : left % q = 0) : Pr q := by
  obtain ⟨r, h1, h2⟩ := Pr.ex q q2
  have h3 := h.2.2.1 r h1 (Nat.dvd_trans h2 (Nat.dvd_of_mod_eq_zero hm))
  have h4 := Nat.le_of_dvd (by omega) h2
  obtain rfl : r = q := by omega
  exact h1
def FcJ (n left q : Nat) : Prop := 1 ≤ left ∧ left ≤ n ∧ (∀ r, Pr r → r ∣ left → q ≤ r) ∧ ∀ r, Pr r → q < r → ((r ∣ left ↔ r ∣ n) ∧ exF r left = exF r n)
theorem FcI.J {n left q : Nat} (h : FcI n left q) : FcJ n left q := ⟨h.1, h.2.1, h.2.2.1, fun r hr hl => h.2.2.2 r hr (by omega)⟩
theorem FcJ.dv {n left q : Nat} (h : FcJ n left q) (hq : Pr q) (hm : left % q = 0) : FcJ n (left / q) q := by
  have q2 := hq.1
  obtain ⟨t, ht⟩ := Nat.dvd_of_mod_eq_zero hm
  have e : left / q = t := by rw [ht, Nat.mul_div_cancel_left _ (by omega)]
  rw [e]
  have h1 := h.1
  have t0 : t ≠ 0 := fun z => by rw [z, Nat.mul_zero] at ht; omega
  have tl : t ≤ left := by rw [ht]; exact Nat.le_mul_of_pos_left _ (by omega)
  refine ⟨by omega, Nat.le_trans tl h.2.1, fun r hr hd => h.2.2.1 r hr (Nat.dvd_trans hd ⟨q, by rw [ht, Nat.mul_comm]⟩), fun r hr hl => ?_⟩
  have a := h.2.2.2 r hr hl
  rw [ht] at a
  refine ⟨?_, ?_⟩
  · rw [← a.1]
    constructor
    · intro z
      exact Nat.dvd_trans z ⟨q, Nat.mul_comm _ _⟩
    · intro z
      rcases hr.dv z with y | y
      · have := Nat.le_of_dvd (by omega) y
        omega
      · exact y
  · rw [← a.2, exF_mul hr hq (by omega) t t0]
theorem FcJ.I {n left q : Nat} (h : FcJ n left q) (hm : left % q ≠ 0) : FcI n left (q + 1) := by
  refine ⟨h.1, h.2.1, fun r hr hd => ?_, fun r hr hle => h.2.2.2 r hr (by omega)⟩
  have h1 := h.2.2.1 r hr hd
  by_cases c : r = q
  · subst c
    exact absurd (Nat.mod_eq_zero_of_dvd hd) hm
  · omega
def c_does : Call := ⟨Nat × Nat, 2, (fun (w, p) vs _ => vs = [.inl (w : Int), .inl (p : Int)] ∧ 2 ≤ p ∧ p < 1073741824 ∧ w < 1073741824), .inr (fun (w, p) _ M x M' => ((x = 1 ∧ Wit p w) ∨ (x = 0 ∧ ¬ Wit p w)) ∧ M' = M)⟩
theorem v_does (n0 : Nn) : Ver tX8_does (fdX8, icX8, lcX8, [(207, none, c_powers)]) 2 4 n0 c_does := by
  rintro ⟨w, p⟩ vs M0 ⟨rfl, p2, p3, hw⟩ aw run
  change aw 0 [some (.inl (w : Int)), some (.inl (p : Int)), none, none] [] M0
  refine run 60 [20] _ _ _ _ ?_
  refine ⟨(w, p - 1, p), ⟨by rw [show (p : Int) - 1 = ((p - 1 : Nat) : Int) by omega], by omega, by omega, by omega, by omega⟩, ?_⟩
  rintro x M0 ⟨rfl, rfl⟩
  have hmod : ∀ k, w ^ k % p < p := fun k => Nat.mod_lt _ (by omega)
  have hm1 := hmod (p - 1)
  by_cases c1 : w ^ (p - 1) % p = 1
  rotate_left
  · refine And.intro ⟨⟨by omega, by omega⟩, ⟨by omega, by omega⟩⟩ (And.intro (fun c1 => absurd c1 (by omega)) (fun _ => ?_))
    exact And.intro (Or.inl rfl) (Or.inl ⟨Or.inr ⟨rfl, fun z => c1 z.1⟩, rfl⟩)
  refine And.intro ⟨⟨by omega, by omega⟩, ⟨by omega, by omega⟩⟩ (And.intro (fun _ => ?_) (fun c2 => absurd c2 (by omega)))
  have loop : ∀ (m left q : Nat), p ≤ q + m → 2 ≤ q → FcI (p - 1) left q → (∀ r, Pr r → r < q → r ∣ p - 1 → w ^ ((p - 1) / r) % p ≠ 1) → aw 20 [some (.inl (w : Int)), some (.inl (p : Int)), some (.inl (left : Int)), some (.inl (q : Int))] [] M0 := by
    intro m
    induction m with
    | zero =>
      intro left q hm q2 hI hW
      have h1 := hI.1
      have h2 := hI.2.1
      have hl : left = 1 := by
        by_cases c : 1 < left
        · have := hI.ge c
          omega
        · omega
      subst hl
      refine run 60 [20] _ _ _ _ ?_
      refine And.intro ⟨⟨by omega, by omega⟩, ⟨by omega, by omega⟩⟩ (And.intro (fun _ => ?_) (fun c2 => absurd c2 (by omega)))
      refine And.intro (Or.inr rfl) (Or.inl ⟨Or.inl ⟨rfl, c1, fun r hr hd => ?_⟩, rfl⟩)
      refine hW r hr ?_ hd
      have := Nat.le_of_dvd (by omega) hd
      omega
    | succ m ih =>
      intro left q hm q2 hI hW
      have h1 := hI.1
      have h2 := hI.2.1
      by_cases hl : 1 < left
      rotate_left
      · have hl : left = 1 := by omega
        subst hl
        refine run 60 [20] _ _ _ _ ?_
        refine And.intro ⟨⟨by omega, by omega⟩, ⟨by omega, by omega⟩⟩ (And.intro (fun _ => ?_) (fun c2 => absurd c2 (by omega)))
        refine And.intro (Or.inr rfl) (Or.inl ⟨Or.inl ⟨rfl, c1, fun r hr hd => ?_⟩, rfl⟩)
        by_cases c : r < q
        · exact hW r hr c hd
        · have := (hI.2.2.2 r hr (by omega)).1.mpr hd
          have := Nat.le_of_dvd (by decide) this
          have := hr.1
          omega
      have hql := hI.ge hl
      have go : ∀ Q : Nat, q ≤ Q → Q ≤ left → FcI (p - 1) left Q → (∀ r, Pr r → r < Q → r ∣ p - 1 → w ^ ((p - 1) / r) % p ≠ 1) → aw 34 [some (.inl (w : Int)), some (.inl (p : Int)), some (.inl (left : Int)), some (.inl (Q : Int))] [] M0 := by
        intro Q hq1 hq2 hI hW
        have em : (left : Int) % (Q : Int) = ((left % Q : Nat) : Int) := (Int.natCast_emod _ _).symm
        have hmq := Nat.mod_lt left (show 0 < Q by omega)
        by_cases cd : left % Q = 0
        rotate_left
        · refine run 60 [20] _ _ _ _ ?_
          refine And.intro ⟨by omega, by omega, ⟨by omega, by omega⟩, ⟨by omega, by omega⟩⟩ ?_
          rw [em]
          refine And.intro ⟨⟨by omega, by omega⟩, ⟨by omega, by omega⟩⟩ (And.intro (fun c1 => absurd c1 (by omega)) (fun _ => ?_))
          refine And.intro ?_ trivial
          refine ih left (Q + 1) (by omega) (by omega) (hI.skip cd) (fun r hr hlt hd => ?_)
          by_cases c : r = Q
          · subst c
            have := (hI.2.2.2 r hr (Nat.le_refl _)).1.mpr hd
            exact absurd (Nat.mod_eq_zero_of_dvd this) cd
          · exact hW r hr (by omega) hd
        have hQ := hI.dp (by omega) cd
        have hQd : Q ∣ p - 1 := (hI.2.2.2 Q hQ (Nat.le_refl _)).1.mp (Nat.dvd_of_mod_eq_zero cd)
        have inner : ∀ (k L : Nat), L ≤ k → FcJ (p - 1) L Q → aw 43 [some (.inl (w : Int)), some (.inl (p : Int)), some (.inl (L : Int)), some (.inl (Q : Int))] [] M0 := by
          intro k
          induction k with
          | zero =>
            intro L hk hJ
            have := hJ.1
            omega
          | succ k ihk =>
            intro L hk hJ
            have j1 := hJ.1
            have j2 := hJ.2.1
            have em : (L : Int) % (Q : Int) = ((L % Q : Nat) : Int) := (Int.natCast_emod _ _).symm
            have ed : (L : Int) / (Q : Int) = ((L / Q : Nat) : Int) := (Int.natCast_ediv _ _).symm
            have hmq := Nat.mod_lt L (show 0 < Q by omega)
            refine run 60 [20, 43] _ _ _ _ ?_
            refine And.intro ⟨by omega, by omega, ⟨by omega, by omega⟩, ⟨by omega, by omega⟩⟩ ?_
            rw [em]
            by_cases cm : L % Q = 0
            · refine And.intro ⟨⟨by omega, by omega⟩, ⟨by omega, by omega⟩⟩ (And.intro (fun c1 => absurd c1 (by omega)) (fun _ => ?_))
              refine And.intro ⟨by omega, by omega, ⟨by omega, by omega⟩, ⟨by omega, by omega⟩⟩ (And.intro ?_ trivial)
              rw [ed]
              exact ihk (L / Q) (by have := Nat.div_lt_self (show 0 < L by omega) (show 1 < Q by omega); omega) (hJ.dv hQ cm)
            · refine And.intro ⟨⟨by omega, by omega⟩, ⟨by omega, by omega⟩⟩ (And.intro (fun _ => ?_) (fun c2 => absurd c2 (by omega)))
              have e3 : ((p : Int) - 1) / (Q : Int) = (((p - 1) / Q : Nat) : Int) := by rw [Int.natCast_ediv]; congr 1; omega
              have e4 := Nat.div_le_self (p - 1) Q
              refine And.intro ⟨by omega, by omega, ⟨by omega, by omega⟩, ⟨by omega, by omega⟩⟩ ?_
              rw [e3]
              refine ⟨(w, (p - 1) / Q, p), ⟨rfl, by omega, by omega, by omega, by omega⟩, ?_⟩
              rintro x M0 ⟨rfl, rfl⟩
              have hm2 := hmod ((p - 1) / Q)
              by_cases c2 : w ^ ((p - 1) / Q) % p = 1
              · refine And.intro ⟨⟨by omega, by omega⟩, ⟨by omega, by omega⟩⟩ (And.intro (fun c1 => absurd c1 (by omega)) (fun _ => ?_))
                exact And.intro (Or.inl rfl) (Or.inl ⟨Or.inr ⟨rfl, fun z => z.2 Q hQ hQd c2⟩, rfl⟩)
              · refine And.intro ⟨⟨by omega, by omega⟩, ⟨by omega, by omega⟩⟩ (And.intro (fun _ => ?_) (fun c2 => absurd c2 (by omega)))
                refine And.intro ?_ trivial
                refine ih L (Q + 1) (by omega) (by omega) (hJ.I cm) (fun r hr hlt hd => ?_)
                by_cases c : r = Q
                · subst c
                  exact c2
                · exact hW r hr (by omega) hd
        refine run 60 [43] _ _ _ _ ?_
        refine And.intro ⟨by omega, by omega, ⟨by omega, by omega⟩, ⟨by omega, by omega⟩⟩ ?_
        rw [em]
        refine And.intro ⟨⟨by omega, by omega⟩, ⟨by omega, by omega⟩⟩ (And.intro (fun _ => ?_) (fun c2 => absurd c2 (by omega)))
        refine And.intro ?_ trivial
        exact inner left left (Nat.le_refl _) hI.J
      have ed : (left : Int) / (q : Int) = ((left / q : Nat) : Int) := (Int.natCast_ediv _ _).symm
      have edl := Nat.div_le_self left q
      obtain ⟨z, ez⟩ : ∃ z, z = left / q := ⟨_, rfl⟩
      rw [← ez] at ed edl
      refine run 60 [20, 34] _ _ _ _ ?_
      refine And.intro ⟨⟨by omega, by omega⟩, ⟨by omega, by omega⟩⟩ (And.intro (fun c1 => absurd c1 (by omega)) (fun _ => ?_))
      refine And.intro ⟨by omega, by omega, ⟨by omega, by omega⟩, ⟨by omega, by omega⟩⟩ ?_
      rw [ed]
      by_cases cq : z < q
      · have hPl := hI.pr hl (by rw [← ez]; exact cq)
        refine And.intro ⟨⟨by omega, by omega⟩, ⟨by omega, by omega⟩⟩ (And.intro (fun c1 => absurd c1 (by omega)) (fun _ => ?_))
        refine And.intro ?_ trivial
        refine go left hql (Nat.le_refl _) (hI.jump hPl) (fun r hr hlt hd => ?_)
        by_cases c : r < q
        · exact hW r hr c hd
        · have h9 := (hI.2.2.2 r hr (by omega)).1.mpr hd
          exact absurd (Nat.mod_eq_zero_of_dvd h9) (hPl.2 r hr.1 hlt)
      · refine And.intro ⟨⟨by omega, by omega⟩, ⟨by omega, by omega⟩⟩ (And.intro (fun _ => ?_) (fun c2 => absurd c2 (by omega)))
        exact And.intro (go q (Nat.le_refl _) hql hI hW) trivial
  refine And.intro ?_ trivial
  rw [show (p : Int) - 1 = ((p - 1 : Nat) : Int) by omega]
  exact loop p (p - 1) 2 (by omega) (by omega) (FcI.z (by omega)) (fun r hr hlt => by have := hr.1; omega)
theorem imX8_does {l : Launch} {Z : ZT} (hZ : ZOk Z) : Impl l Z yX8_does cX8_does 4 (some .boolean) 2 c_does := mkImpl (rt := 2) (CL := [(207, none, c_powers)]) hZ.1 hZ.2.1 (by decide +kernel) kX8_does fwX8 iwX8 lwX8 trivial (Nat.le_of_ble_eq_true rfl) (List.forall_mem_cons.mpr ⟨gX8_207 hZ (by decide), fun q h => absurd h List.not_mem_nil⟩) ((v_does _))
theorem gX8_217 {l : Launch} {Z : ZT} (hZ : ZOk Z) {d : Nat} (hd : 3 ≤ d) : CallI l Z RX8 d (217, none, c_does) := fun p e s m args below meth c Q cc nL x0 X => callOk_S X (imX8_does hZ) mlX8_217 sw_yX8_does nw_RX8 cw_yX8_does ⟨by decide +kernel, by decide +kernel, by decide +kernel⟩ ⟨hd, by decide⟩
