/-! ===== the reference: prove ===== -/
def lpr (l : List Nat) : Nat := match l with
  | [] => 1
  | q :: r => q * lpr r
theorem lpr_nd {i : Nat} (hi : Pr i) : ∀ {l : List Nat}, (∀ x ∈ l, Pr x ∧ x ≠ i) → ¬ i ∣ lpr l := by
  intro l
  induction l with
  | nil =>
    intro _ h
    have h : i ∣ 1 := h
    have := Nat.le_of_dvd (by decide) h
    have := hi.1
    omega
  | cons q r ih =>
    intro h hd
    rcases hi.dv hd with z | z
    · have hq := h q List.mem_cons_self
      have z2 := Nat.le_of_dvd (by have := hq.1.1; omega) z
      exact absurd (Nat.mod_eq_zero_of_dvd z) (hq.1.2 i hi.1 (by have := hq.2; omega))
    · exact ih (fun x hx => h x (List.mem_cons_of_mem _ hx)) z
theorem lpr_dv {n : Nat} : ∀ {r i : Nat}, lpr (pdv n i r) ∣ n := by
  intro r
  induction r with
  | zero => intro i; exact Nat.one_dvd n
  | succ r ih =>
    intro i
    rw [pdv]
    by_cases c : prB i = true ∧ n % i = 0
    · rw [if_pos c]
      have hi := prB_i.mp c.1
      have h1 : ¬ i ∣ lpr (pdv n (i + 1) r) := lpr_nd hi (fun x hx => by
        have := pd_mem.mp hx
        exact ⟨this.2.2.1, by omega⟩)
      exact Nat.Coprime.mul_dvd_of_dvd_of_dvd (hi.cop h1) (Nat.dvd_of_mod_eq_zero c.2) ih
    · rw [if_neg c]
      exact ih
theorem bdy_len {f : Nat → List Int} {n : Nat} : ∀ {l : List Nat}, (∀ q ∈ l, 2 ^ ((f q).length + 1) ≤ q ^ 11) → 2 ^ (bdy f n l).length ≤ lpr l ^ 11 := by
  intro l
  induction l with
  | nil => intro _; exact Nat.le_refl _
  | cons q r ih =>
    intro h
    rw [bdy, lpr, List.length_cons, List.length_append, show (f q).length + (bdy f n r).length + 1 = ((f q).length + 1) + (bdy f n r).length by omega, Nat.pow_add, Nat.mul_pow]
    exact Nat.mul_le_mul (h q List.mem_cons_self) (ih (fun x hx => h x (List.mem_cons_of_mem _ hx)))
theorem Pr_2 : Pr 2 := ⟨Nat.le_refl _, fun d a b => by omega⟩
theorem crW_len : ∀ r p, Pr p → 2 ^ ((crW r p).length + 1) ≤ p ^ 11 := by
  intro r
  induction r with
  | zero =>
    intro p hp
    show 2 ^ 1 ≤ p ^ 11
    have h1 : 2 ^ 11 ≤ p ^ 11 := Nat.pow_le_pow_left hp.1 11
    exact Nat.le_trans (by decide) h1
  | succ r ih =>
    intro p hp
    have p2 := hp.1
    rw [crW]
    by_cases c : p = 2
    · rw [if_pos c, c]
      decide
    · rw [if_neg c]
      have hodd : p % 2 ≠ 0 := hp.2 2 (Nat.le_refl _) (by omega)
      have e1 : fs (p - 1) = 2 :: pdv (p - 1) 3 (p - 3) := by
        unfold fs
        rw [show p - 1 - 1 = (p - 3) + 1 by omega]
        exact pd_hit Pr_2 (by omega)
      have hd : lpr (fs (p - 1)) ≤ p - 1 := Nat.le_of_dvd (by omega) lpr_dv
      rw [e1] at hd ⊢
      have hb := bdy_len (f := crW r) (n := p - 1) (l := pdv (p - 1) 3 (p - 3)) (fun q hq => ih q (pd_mem.mp hq).2.2.1)
      have h2 : (crW r 2).length ≤ 2 := by
        cases r with
        | zero => exact Nat.zero_le _
        | succ r => rw [crW, if_pos rfl]; decide
      have hn1 := numW_len p
      have hn2 := numW_len (lw p)
      rw [bdy, List.length_append, List.length_cons, List.length_cons, List.length_append, List.length_append]
      have hle : (numW p).length + (numW (lw p)).length + ((crW r 2).length + (bdy (crW r) (p - 1) (pdv (p - 1) 3 (p - 3))).length + 1 + 1) + 1 ≤ 11 + (bdy (crW r) (p - 1) (pdv (p - 1) 3 (p - 3))).length := by omega
      refine Nat.le_trans (Nat.pow_le_pow_right (by decide) hle) ?_
      rw [Nat.pow_add]
      refine Nat.le_trans (Nat.mul_le_mul_left _ hb) ?_
      rw [← Nat.mul_pow]
      exact Nat.pow_le_pow_left (Nat.le_trans hd (by omega)) 11
theorem crW_330 {r p : Nat} (hp : Pr p) (h : p < 1073741824) : (crW r p).length < 330 := by
  have h1 := crW_len r p hp
  have h2 : p ^ 11 ≤ 1073741824 ^ 11 := Nat.pow_le_pow_left (by omega) 11
  have h3 : (1073741824 : Nat) ^ 11 = 2 ^ (30 * 11) := by rw [Nat.pow_mul]
  rcases Nat.lt_or_ge (crW r p).length 330 with z | z
  · exact z
  · have h5 : (2 : Nat) ^ (30 * 11) < 2 ^ ((crW r p).length + 1) := Nat.pow_lt_pow_right (by decide) (by omega)
    rw [h3] at h2
    exact absurd (Nat.le_trans h1 h2) (Nat.not_le_of_lt h5)
theorem exF_le {q : Nat} (hq : 2 ≤ q) : ∀ n, n ≠ 0 → 2 ^ exF q n ≤ n := by
  intro n
  induction n using Nat.strongRecOn with
  | ind n ih =>
    intro hn
    by_cases c : n % q = 0
    · rw [exF_s hq hn c]
      have h0 : n / q ≠ 0 := fun z => by
        have := Nat.div_add_mod n q
        rw [z, c] at this
        omega
      have h1 := ih (n / q) (Nat.div_lt_self (by omega) (by omega)) h0
      rw [Nat.pow_succ]
      have h2 := Nat.div_mul_le_self n q
      have h3 := Nat.mul_le_mul h1 hq
      omega
    · rw [exF_0 c]
      show 1 ≤ n
      omega
theorem lpr_len : ∀ {l : List Nat}, (∀ x ∈ l, 2 ≤ x) → 2 ^ l.length ≤ lpr l := by
  intro l
  induction l with
  | nil => intro _; exact Nat.le_refl _
  | cons q r ih =>
    intro h
    rw [lpr, List.length_cons, Nat.pow_succ, Nat.mul_comm]
    exact Nat.mul_le_mul (h q List.mem_cons_self) (ih (fun x hx => h x (List.mem_cons_of_mem _ hx)))
theorem lt_pw {a b : Nat} (h : 2 ^ a ≤ b) (hb : b < 1073741824) : a < 30 := by
  rcases Nat.lt_or_ge a 30 with z | z
  · exact z
  · have : 2 ^ 30 ≤ 2 ^ a := Nat.pow_le_pow_right (by decide) z
    omega
theorem numW_r {v : Nat} (h : v < 1073741824) : ∀ x ∈ numW v, 0 ≤ x ∧ x ≤ 32767 := by
  intro x hx
  unfold numW at hx
  split at hx
  · simp at hx
    omega
  · simp at hx
    omega
theorem bdy_r {f : Nat → List Int} {n : Nat} (hn : n ≠ 0) (hn2 : n < 1073741824) : ∀ {l : List Nat}, (∀ q ∈ l, 2 ≤ q ∧ ∀ x ∈ f q, 0 ≤ x ∧ x ≤ 32767) → ∀ x ∈ bdy f n l, 0 ≤ x ∧ x ≤ 32767 := by
  intro l
  induction l with
  | nil => intro _ x hx; exact absurd hx List.not_mem_nil
  | cons q r ih =>
    intro h x hx
    rw [bdy] at hx
    rcases List.mem_cons.mp hx with e | e
    · have := lt_pw (exF_le (h q List.mem_cons_self).1 n hn) hn2
      omega
    · rcases List.mem_append.mp e with e | e
      · exact (h q List.mem_cons_self).2 x e
      · exact ih (fun y hy => h y (List.mem_cons_of_mem _ hy)) x e
theorem crW_r : ∀ r p, Pr p → p < 1073741824 → ∀ x ∈ crW r p, 0 ≤ x ∧ x ≤ 32767 := by
  intro r
  induction r with
  | zero => intro p _ _ x hx; exact absurd hx List.not_mem_nil
  | succ r ih =>
    intro p hp h x hx
    have p2 := hp.1
    rw [crW] at hx
    by_cases c : p = 2
    · rw [if_pos c] at hx
      exact numW_r (by decide) x hx
    · rw [if_neg c] at hx
      rcases List.mem_append.mp hx with e | e
      · rcases List.mem_append.mp e with e | e
        · exact numW_r h x e
        · exact numW_r (by have := (lw_s hp).2.2.1; omega) x e
      · rcases List.mem_cons.mp e with e | e
        · have h1 : 2 ^ (fs (p - 1)).length ≤ lpr (fs (p - 1)) := lpr_len (fun y hy => ((fs_mem (by omega)).mp hy).1.1)
          have hd : lpr (fs (p - 1)) ≤ p - 1 := Nat.le_of_dvd (by omega) lpr_dv
          have := lt_pw (Nat.le_trans h1 hd) (by omega)
          omega
        · refine bdy_r (by omega) (by omega) (fun q hq => ?_) x e
          have hq1 := (fs_mem (by omega)).mp hq
          have hq2 := Nat.le_of_dvd (by omega) hq1.2
          exact ⟨hq1.1.1, ih q hq1.1 (by omega)⟩
def prvF (n : Nn) (q : RS) (W : WS) (h : Int) : Int × WS := if Lv n q h then (if 2 < nd (q.2.2.2 h.toNat) then (-3, W) else if prB (q.2.2.2 h.toNat) = true then (if crD 12 (q.2.2.2 h.toNat) = true ∨ n.2.2 < (crW 12 (q.2.2.2 h.toNat)).length then (-9, W) else (((crW 12 (q.2.2.2 h.toNat)).length : Int), ((crW 12 (q.2.2.2 h.toNat)).length, fun i => (crW 12 (q.2.2.2 h.toNat)).getD i 0))) else (0, W)) else (-2, W)
def FPv (M M' : Mem) : Prop := (∀ o, o ≠ 50 → o ≠ 60 → o ≠ 66 → M' o = M o) ∧ ∀ j, j ≠ 18 → j ≠ 27 → j ≠ 28 → M' 50 j = M 50 j
def c_prove : Call := ⟨Nn × RS × WS × Int, 2, (fun (n, q, W, h) vs M => vs = [.inr (.inr 50), .inl h] ∧ inR h ∧ RN n M 0 q ∧ RW n M W), .inr (fun (n, q, W, h) _ M x M' => x = (prvF n q W h).1 ∧ RW n M' (prvF n q W h).2 ∧ RN n M' 0 q ∧ FPv M M')⟩
theorem two_dg {v : Nat} (h : nd v ≤ 2) : v = dg v 0 + 32768 * dg v 1 := by
  have h1 := nd_le.mp h
  have h2 := md_s v 1
  have h3 := md_s v 0
  rw [Nat.mod_eq_of_lt h1] at h2
  simp at h2 h3
  rw [Nat.mod_one] at h3
  omega
theorem FPv.wb {n : Nn} {M M' : Mem} {W : WS} (h1 : ∀ o, o ≠ 50 → o ≠ 66 → M' o = M o) (h2 : ∀ j, j ≠ 27 → j ≠ 28 → M' 50 j = M 50 j) (hW : RW n M W) : RW n M' W := by
  obtain ⟨⟨a1, a2, a3⟩, b1, b2, b3⟩ := hW
  exact ⟨⟨by rw [h2 18 (by decide) (by decide)]; exact a1, a2, fun i hi => by rw [h1 60 (by decide) (by decide)]; exact a3 i hi⟩, by rw [h2 2 (by decide) (by decide)]; exact b1, b2, b3⟩
set_option maxHeartbeats 1000000 in
theorem v_prove (n0 : Nn) : Ver tX8_prove (fdX8, icX8, lcX8, [(138, some 8, c_isLiveL), (76, some 8, c_at), (223, none, c_isPrime), (220, some 8, c_cert 12)]) 1 4 n0 c_prove := by
  rintro ⟨n, q, W, h⟩ vs M0 ⟨rfl, ih, R, hW⟩ aw run
  have l52 : lnF n0 52 = 37 := rfl
  have l60 : lnF n0 60 = 400 := rfl
  have l66 : lnF n0 66 = 4000 := rfl
  have hw2 := hW.2.1
  have hw4 := hW.2.2.2
  change aw 0 [some (.inr (.inr 50)), some (.inl h), none, none] [] M0
  refine run 90 [89] _ _ _ _ ?_
  refine And.intro rfl ⟨(n, 0, q, h), ⟨rfl, ih, R⟩, ?_⟩
  rintro x M0 ⟨⟨rfl, hh⟩ | ⟨rfl, hh⟩, rfl⟩
  rotate_left
  · refine And.intro ⟨⟨by omega, by omega⟩, ⟨by omega, by omega⟩⟩ (And.intro (fun c1 => absurd c1 (by omega)) (fun _ => ?_))
    have e : prvF n q W h = (-2, W) := if_neg hh
    refine Or.inl ?_
    show -2 = (prvF n q W h).1 ∧ RW n M0 (prvF n q W h).2 ∧ RN n M0 0 q ∧ FPv M0 M0
    rw [e]
    exact ⟨rfl, hW, R, ⟨fun _ _ _ _ => rfl, fun _ _ _ _ => rfl⟩⟩
  refine And.intro ⟨⟨by omega, by omega⟩, ⟨by omega, by omega⟩⟩ (And.intro (fun _ => ?_) (fun c2 => absurd c2 (by omega)))
  have b2 := R.n24
  have e := show prvF n q W h = _ from if_pos hh
  obtain ⟨h, rfl, h_1, h_2⟩ := hh.nat
  have Ah := R.at h_1 h_2
  rw [Int.toNat_natCast] at e
  obtain ⟨v, ev⟩ : ∃ v, v = q.2.2.2 h := ⟨_, rfl⟩
  rw [← ev] at e Ah
  obtain ⟨a1, a2, a3, a4, a5, a6, a7, a8⟩ := Ah
  refine And.intro rfl (And.intro ⟨rfl, by omega, by omega⟩ ?_)
  conv => whnf
  rw [Int.toNat_natCast, a8]
  by_cases c2 : 2 < nd v
  · rw [if_pos c2] at e
    refine And.intro ⟨⟨by omega, by omega⟩, ⟨by omega, by omega⟩⟩ (And.intro (fun c1 => absurd c1 (by omega)) (fun _ => ?_))
    refine Or.inl ?_
    show -3 = (prvF n q W h).1 ∧ RW n M0 (prvF n q W h).2 ∧ RN n M0 0 q ∧ FPv M0 M0
    rw [e]
    exact ⟨rfl, hW, R, ⟨fun _ _ _ _ => rfl, fun _ _ _ _ => rfl⟩⟩
  rw [if_neg c2] at e
  refine And.intro ⟨⟨by omega, by omega⟩, ⟨by omega, by omega⟩⟩ (And.intro (fun _ => ?_) (fun c2 => absurd c2 (by omega)))
  refine And.intro rfl ⟨(h, 0, v), ⟨rfl, by omega, ⟨by omega, by omega⟩, a4, by omega⟩, ?_⟩
  rintro x M0 ⟨rfl, rfl⟩
  refine And.intro rfl ⟨(h, 1, v), ⟨rfl, by omega, ⟨by omega, by omega⟩, a4, by omega⟩, ?_⟩
  rintro x M0 ⟨rfl, rfl⟩
  have d0 : dgZ v 0 = ((dg v 0 : Nat) : Int) := rfl
  have d1 : dgZ v 1 = ((dg v 1 : Nat) : Int) := rfl
  have tv := two_dg (v := v) (by omega)
  have g0 := dg_lt v 0
  have g1 := dg_lt v 1
  rw [d0, d1]
  conv => whnf
  rw [show (dg v 0 : Int) + 32768 * (dg v 1 : Int) = (v : Int) by omega]
  refine ⟨(v, 0), ⟨rfl, by omega⟩, ?_⟩
  rintro x M0 ⟨⟨rfl, hP⟩ | ⟨rfl, hP⟩, rfl⟩
  rotate_left
  · rw [if_neg (fun z => hP (prB_i.mp z))] at e
    refine And.intro ⟨⟨by omega, by omega⟩, ⟨by omega, by omega⟩⟩ (And.intro (fun c1 => absurd c1 (by omega)) (fun _ => ?_))
    refine Or.inl ?_
    show 0 = (prvF n q W h).1 ∧ RW n M0 (prvF n q W h).2 ∧ RN n M0 0 q ∧ FPv M0 M0
    rw [e]
    exact ⟨rfl, hW, R, ⟨fun _ _ _ _ => rfl, fun _ _ _ _ => rfl⟩⟩
  rw [if_pos (prB_i.mpr hP)] at e
  refine And.intro ⟨⟨by omega, by omega⟩, ⟨by omega, by omega⟩⟩ (And.intro (fun _ => ?_) (fun c2 => absurd c2 (by omega)))
  have hlen := crW_330 (r := 12) hP (by omega)
  refine And.intro rfl (And.intro ⟨rfl, Or.inl rfl⟩ ?_)
  have k27 : up2 (up2 M0 50 27 0) 50 28 0 50 27 = ((0 : Nat) : Int) := by rw [up2_k (by decide), up2_s]; rfl
  have k28 : up2 (up2 M0 50 27 0) 50 28 0 50 28 = 0 := up2_s
  have f1 : FCt M0 (up2 (up2 M0 50 27 0) 50 28 0) := ⟨fun o a b => by rw [up2_i a, up2_i a], fun j a b => by rw [up2_k b, up2_k a]⟩
  generalize up2 (up2 M0 50 27 0) 50 28 0 = M1 at *
  refine And.intro rfl ⟨(v, 1, 0), ⟨rfl, hP, by omega, by omega, by omega, k27, k28, by omega⟩, ?_⟩
  have fin : ∀ M, FCt M0 M → (crD 12 v = true ∨ n.2.2 < (crW 12 v).length) → (-9 = (prvF n q W h).1 ∧ RW n M (prvF n q W h).2 ∧ RN n M 0 q ∧ FPv M0 M) := by
    intro M hF hc
    rw [if_pos hc] at e
    rw [e]
    exact ⟨rfl, FPv.wb hF.1 hF.2 hW, R.ag (fun o a b => hF.1 o (by omega) (by omega)) (fun j hj => hF.2 j (by omega) (by omega)), ⟨fun o a b c => hF.1 o a c, fun j a b c => hF.2 j b c⟩⟩
  rintro M2 (⟨q1, q2, q3⟩ | ⟨q1, q2, q3⟩)
  rotate_left
  · refine And.intro rfl ?_
    refine And.intro ⟨⟨by omega, by omega⟩, ⟨by omega, by omega⟩⟩ (And.intro (fun _ => ?_) (fun c2 => absurd c2 (by omega)))
    exact Or.inl (fin M2 (f1.tr q3) (Or.inl q1))
  have f2 := f1.tr q3.2.2.2
  have m27 : M2 50 27 = ((crW 12 v).length : Int) := by rw [q3.1, Nat.zero_add]
  have m2 : M2 50 2 = (n.2.2 : Int) := by rw [f2.2 2 (by decide) (by decide)]; exact hw2
  refine And.intro rfl ?_
  refine And.intro ⟨⟨by omega, by omega⟩, ⟨by omega, by omega⟩⟩ (And.intro (fun c1 => absurd c1 (by omega)) (fun _ => ?_))
  refine And.intro rfl (And.intro rfl ?_)
  by_cases c3 : n.2.2 < (crW 12 v).length
  · refine And.intro ⟨⟨by omega, by omega⟩, ⟨by omega, by omega⟩⟩ (And.intro (fun c1 => absurd c1 (by omega)) (fun _ => ?_))
    exact Or.inl (fin M2 f2 (Or.inr c3))
  refine And.intro ⟨⟨by omega, by omega⟩, ⟨by omega, by omega⟩⟩ (And.intro (fun _ => ?_) (fun c2 => absurd c2 (by omega)))
  rw [if_neg (fun z => by rcases z with y | y; rw [q1] at y; exact absurd y (by decide); exact c3 y)] at e
  refine And.intro ?_ trivial
  have loop : ∀ (r k : Nat) (M : Mem), k + r = (crW 12 v).length → (∀ i, i < k → M 60 i = (crW 12 v).getD i 0) → (∀ o, o ≠ 60 → M o = M2 o) → aw 89 [some (.inr (.inr 50)), some (.inl (h : Int)), some (.inl (v : Int)), some (.inl (k : Int))] [] M := by
    intro r
    induction r with
    | zero =>
      intro k M hk h1 h2
      obtain rfl : k = (crW 12 v).length := by omega
      have n27 : M 50 27 = ((crW 12 v).length : Int) := by rw [h2 50 (by decide)]; exact m27
      refine run 60 [89] _ _ _ _ ?_
      refine And.intro rfl ?_
      refine And.intro ⟨⟨by omega, by omega⟩, ⟨by omega, by omega⟩⟩ (And.intro (fun _ => ?_) (fun c2 => absurd c2 (by omega)))
      refine And.intro rfl ?_
      conv => whnf
      rw [n27]
      refine And.intro rfl (And.intro rfl (Or.inl ?_))
      show up2 M 50 18 _ 50 18 = (prvF n q W h).1 ∧ RW n (up2 M 50 18 ((crW 12 v).length : Int)) (prvF n q W h).2 ∧ RN n (up2 M 50 18 ((crW 12 v).length : Int)) 0 q ∧ FPv M0 (up2 M 50 18 ((crW 12 v).length : Int))
      rw [e]
      refine ⟨up2_s, ⟨⟨up2_s, by show (crW 12 v).length ≤ 400; omega, fun i hi => ?_⟩, by rw [up2_k (by decide), h2 50 (by decide)]; exact m2, by show (crW 12 v).length ≤ n.2.2; omega, hw4⟩, R.ag (fun o a b => by rw [up2_i (by omega), h2 o (by omega)]; exact f2.1 o (by omega) (by omega)) (fun j hj => by rw [up2_k (by omega), h2 50 (by decide)]; exact f2.2 j (by omega) (by omega)), ⟨fun o a b c => by rw [up2_i a, h2 o b]; exact f2.1 o a c, fun j a b c => by rw [up2_k a, h2 50 (by decide)]; exact f2.2 j b c⟩⟩
      change i < (crW 12 v).length at hi
      show up2 M 50 18 _ 60 i = (crW 12 v).getD i 0 ∧ 0 ≤ (crW 12 v).getD i 0 ∧ (crW 12 v).getD i 0 ≤ 32767
      rw [up2_i (by decide)]
      refine ⟨h1 i hi, ?_⟩
      rw [List.getD_eq_getElem?_getD, List.getElem?_eq_getElem hi]
      exact crW_r 12 v hP (by omega) _ (List.getElem_mem hi)
    | succ r ih =>
      intro k M hk h1 h2
      have n27 : M 50 27 = ((crW 12 v).length : Int) := by rw [h2 50 (by decide)]; exact m27
      have hkl : k < (crW 12 v).length := by omega
      have hm : M 66 k = (crW 12 v).getD k 0 := by
        rw [h2 66 (by decide), List.getD_eq_getElem?_getD, List.getElem?_eq_getElem hkl]
        have := q3.2.1 k _ (List.getElem?_eq_getElem hkl)
        rw [Nat.zero_add] at this
        exact this
      refine run 60 [89] _ _ _ _ ?_
      refine And.intro rfl ?_
      refine And.intro ⟨⟨by omega, by omega⟩, ⟨by omega, by omega⟩⟩ (And.intro (fun c1 => absurd c1 (by omega)) (fun _ => ?_))
      refine And.intro rfl (And.intro rfl (And.intro ⟨rfl, by omega, by omega⟩ (And.intro ⟨rfl, by omega, by omega⟩ (And.intro ?_ trivial))))
      rw [Int.toNat_natCast, hm]
      refine ih (k + 1) _ (by omega) (fun i hi => ?_) (fun o ho => by rw [up2_i ho]; exact h2 o ho)
      by_cases ci : i = k
      · rw [ci, up2_s]
      · rw [up2_k ci]
        exact h1 i (by omega)
  exact loop (crW 12 v).length 0 M2 (by omega) (fun i hi => absurd hi (Nat.not_lt_zero i)) (fun _ _ => rfl)
theorem imX8_prove {l : Launch} {Z : ZT} (hZ : ZOk Z) : Impl l Z yX8_prove cX8_prove 4 (some .int) 17 c_prove := mkImpl (rt := 1) (CL := [(138, some 8, c_isLiveL), (76, some 8, c_at), (223, none, c_isPrime), (220, some 8, (c_cert 12))]) hZ.1 hZ.2.1 (by decide +kernel) kX8_prove fwX8 iwX8 lwX8 trivial (Nat.le_of_ble_eq_true rfl) (List.forall_mem_cons.mpr ⟨gX8_138_L hZ (by decide), List.forall_mem_cons.mpr ⟨gX8_76 hZ (by decide), List.forall_mem_cons.mpr ⟨gX8_223 hZ (by decide), List.forall_mem_cons.mpr ⟨gX8_220 hZ (by decide), fun q h => absurd h List.not_mem_nil⟩⟩⟩⟩) ((v_prove _))
