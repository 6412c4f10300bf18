/-! ===== numbers: Fermat's theorem, and a number whose powers are all there are ===== -/
theorem Pr.cop {p a : Nat} (hp : Pr p) (h : ¬ p ∣ a) : Nat.gcd p a = 1 := by
  have h1 := Nat.gcd_dvd_left p a
  have h2 := Nat.gcd_dvd_right p a
  have h3 : Nat.gcd p a ≤ p := Nat.le_of_dvd (by have := hp.1; omega) h1
  have h4 : Nat.gcd p a ≠ 0 := fun z => by rw [z] at h1; have := Nat.zero_dvd.mp h1; have := hp.1; omega
  by_cases c : Nat.gcd p a = p
  · rw [c] at h2
    exact absurd h2 h
  · by_cases c2 : 2 ≤ Nat.gcd p a
    · exact absurd (Nat.mod_eq_zero_of_dvd h1) (hp.2 _ c2 (by omega))
    · omega
theorem Pr.dv {p a b : Nat} (hp : Pr p) (h : p ∣ a * b) : p ∣ a ∨ p ∣ b := by
  by_cases c : p ∣ a
  · exact Or.inl c
  · exact Or.inr (Nat.Coprime.dvd_of_dvd_mul_left (show Nat.Coprime p a from hp.cop c) h)
theorem Pr.pow {p a k : Nat} (hp : Pr p) (h : p ∣ a ^ k) : p ∣ a := by
  induction k with
  | zero =>
    rw [Nat.pow_zero] at h
    have := Nat.le_of_dvd (by decide) h
    have := hp.1
    omega
  | succ k ih =>
    rw [Nat.pow_succ] at h
    rcases hp.dv h with c | c
    · exact ih c
    · exact c
def chz (n k : Nat) : Nat := match n, k with
  | _, 0 => 1
  | 0, _ + 1 => 0
  | n + 1, k + 1 => chz n k + chz n (k + 1)
theorem chz_id : ∀ n k, (k + 1) * chz (n + 1) (k + 1) = (n + 1) * chz n k := by
  intro n
  induction n with
  | zero =>
    intro k
    cases k with
    | zero => rfl
    | succ k => simp [chz]
  | succ n ih =>
    intro k
    cases k with
    | zero =>
      have h0 := ih 0
      have e1 : chz (n + 1 + 1) (0 + 1) = chz (n + 1) 0 + chz (n + 1) (0 + 1) := rfl
      have e2 : chz (n + 1) 0 = 1 := rfl
      have e3 : chz n 0 = 1 := by cases n <;> rfl
      rw [e1, e2]
      rw [e3] at h0
      omega
    | succ k =>
      have h0 := ih k
      have h1 := ih (k + 1)
      have e1 : chz (n + 1 + 1) (k + 1 + 1) = chz (n + 1) (k + 1) + chz (n + 1) (k + 1 + 1) := rfl
      have e2 : chz (n + 1) (k + 1) = chz n k + chz n (k + 1) := rfl
      rw [e1]
      generalize chz (n + 1) (k + 1) = A at *
      generalize chz (n + 1) (k + 1 + 1) = B at *
      generalize chz n k = C at *
      generalize chz n (k + 1) = D at *
      grind
/-- the first m terms of (a + 1) to the n -/
def bsm (n a m : Nat) : Nat := match m with
  | 0 => 0
  | m + 1 => bsm n a m + chz n m * a ^ m
theorem chz_z : ∀ n k, n < k → chz n k = 0 := by
  intro n
  induction n with
  | zero => intro k hk; cases k with
    | zero => omega
    | succ k => rfl
  | succ n ih => intro k hk; cases k with
    | zero => omega
    | succ k =>
      show chz n k + chz n (k + 1) = 0
      rw [ih k (by omega), ih (k + 1) (by omega)]
theorem chz_n : ∀ n, chz n n = 1 := by
  intro n
  induction n with
  | zero => rfl
  | succ n ih =>
    show chz n n + chz n (n + 1) = 1
    rw [ih, chz_z n (n + 1) (by omega)]
theorem bsm_s (n a : Nat) : ∀ m, bsm (n + 1) a (m + 1) = bsm n a (m + 1) + a * bsm n a m := by
  intro m
  induction m with
  | zero =>
    have e : chz n 0 = 1 := by cases n <;> rfl
    simp [bsm, e, chz]
  | succ m ih =>
    rw [bsm, ih]
    have e : chz (n + 1) (m + 1) = chz n m + chz n (m + 1) := rfl
    rw [e]
    show _ = (bsm n a (m + 1) + chz n (m + 1) * a ^ (m + 1)) + a * bsm n a (m + 1)
    have e2 : bsm n a (m + 1) = bsm n a m + chz n m * a ^ m := rfl
    rw [Nat.pow_succ]
    generalize bsm n a (m + 1) = X at *
    rw [e2]
    grind
theorem bsm_e (a : Nat) : ∀ n, bsm n a (n + 1) = (a + 1) ^ n := by
  intro n
  induction n with
  | zero => simp [bsm, chz]
  | succ n ih =>
    rw [bsm_s, ih]
    have e : bsm n a (n + 1 + 1) = bsm n a (n + 1) + chz n (n + 1) * a ^ (n + 1) := rfl
    rw [e, ih, chz_z n (n + 1) (by omega), Nat.pow_succ]
    grind
theorem chz_p {p k : Nat} (hp : Pr p) (h1 : 0 < k) (h2 : k < p) : p ∣ chz p k := by
  obtain ⟨n, rfl⟩ : ∃ n, p = n + 1 := ⟨p - 1, by omega⟩
  obtain ⟨j, rfl⟩ : ∃ j, k = j + 1 := ⟨k - 1, by omega⟩
  have h := chz_id n j
  have h3 : (n + 1) ∣ (j + 1) * chz (n + 1) (j + 1) := ⟨_, h⟩
  rcases hp.dv h3 with c | c
  · have := Nat.le_of_dvd (by omega) c
    omega
  · exact c
theorem bsm_p {p a : Nat} (hp : Pr p) : ∀ m, 1 ≤ m → m ≤ p → bsm p a m % p = 1 % p := by
  intro m
  induction m with
  | zero => intro h; omega
  | succ m ih =>
    intro _ h
    have e : bsm p a (m + 1) = bsm p a m + chz p m * a ^ m := rfl
    by_cases c : m = 0
    · subst c
      have e3 : chz p 0 = 1 := by cases p <;> rfl
      simp [bsm, e3]
    · have h2 := chz_p (k := m) hp (by omega) (by omega)
      obtain ⟨z, hz⟩ := h2
      rw [e, hz, Nat.mul_assoc, Nat.add_mul_mod_self_left]
      exact ih (by omega) (by omega)
theorem fermat0 {p : Nat} (hp : Pr p) (a : Nat) : a ^ p % p = a % p := by
  have hp2 := hp.1
  induction a with
  | zero => rw [Nat.zero_pow (by omega)]
  | succ a ih =>
    have h := bsm_e a p
    have e : bsm p a (p + 1) = bsm p a p + chz p p * a ^ p := rfl
    rw [e, chz_n, Nat.one_mul] at h
    rw [← h, Nat.add_mod, bsm_p hp p (by omega) (Nat.le_refl _), ih, ← Nat.add_mod, Nat.add_comm]
theorem mod_dv {p a b : Nat} (h : a % p = b % p) (hab : b ≤ a) : p ∣ a - b := (Nat.dvd_iff_mod_eq_zero).mpr (Nat.sub_mod_eq_zero_of_mod_eq h)
theorem fermat {p a : Nat} (hp : Pr p) (h : ¬ p ∣ a) : a ^ (p - 1) % p = 1 := by
  have hp2 := hp.1
  have h0 := fermat0 hp a
  have ha : 0 < a := Nat.pos_of_ne_zero (fun z => h (by rw [z]; exact Nat.dvd_zero p))
  have e : a ^ p = a ^ (p - 1) * a := by rw [← Nat.pow_succ, show (p - 1).succ = p by omega]
  have h1 : 0 < a ^ (p - 1) := Nat.pow_pos ha
  have h2 : p ∣ a ^ p - a := mod_dv h0 (by rw [e]; exact Nat.le_mul_of_pos_left _ h1)
  have e2 : a ^ p - a = a * (a ^ (p - 1) - 1) := by rw [e, Nat.mul_sub, Nat.mul_one, Nat.mul_comm]
  rw [e2] at h2
  rcases hp.dv h2 with c | c
  · exact absurd c h
  · obtain ⟨z, hz⟩ := c
    have : a ^ (p - 1) = 1 + p * z := by omega
    rw [this, Nat.add_mul_mod_self_left, Nat.mod_eq_of_lt (by omega)]
/-- c0 + c1 x + c2 x^2 .. -/
def evP (l : List Int) (x : Int) : Int := match l with
  | [] => 0
  | c :: l => c + x * evP l x
def adP (l m : List Int) : List Int := match l, m with
  | [], m => m
  | l, [] => l
  | a :: l, b :: m => (a + b) :: adP l m
theorem adP_n (l : List Int) : adP l [] = l := by cases l <;> rfl
theorem adP_ev (x : Int) : ∀ l m, evP (adP l m) x = evP l x + evP m x := by
  intro l
  induction l with
  | nil => intro m; show evP m x = 0 + evP m x; omega
  | cons a l ih =>
    intro m
    cases m with
    | nil => rw [adP_n]; show _ = _ + 0; omega
    | cons b m =>
      show a + b + x * evP (adP l m) x = (a + x * evP l x) + (b + x * evP m x)
      rw [ih, Int.mul_add]
      omega
theorem adP_len : ∀ l m : List Int, l.length = m.length → (adP l m).length = l.length := by
  intro l
  induction l with
  | nil => intro m h; show m.length = _; omega
  | cons a l ih =>
    intro m h
    cases m with
    | nil => rfl
    | cons b m =>
      show (adP l m).length + 1 = l.length + 1
      rw [ih m (by simp at h; omega)]
theorem evP_sc (a x : Int) : ∀ l, evP (l.map (fun c => a * c)) x = a * evP l x := by
  intro l
  induction l with
  | nil => show 0 = a * 0; omega
  | cons c l ih =>
    show a * c + x * evP (l.map (fun c => a * c)) x = a * (c + x * evP l x)
    rw [ih, Int.mul_add, ← Int.mul_assoc, ← Int.mul_assoc, Int.mul_comm x a]
theorem evP_ap (x : Int) : ∀ l, evP (l ++ [1]) x = evP l x + x ^ l.length := by
  intro l
  induction l with
  | nil => show 1 + x * 0 = 0 + x ^ 0; simp
  | cons c l ih =>
    show c + x * evP (l ++ [1]) x = c + x * evP l x + x ^ (l.length + 1)
    rw [ih, Int.mul_add, Int.pow_succ, Int.mul_comm (x ^ l.length) x]
    omega
theorem evP_q : ∀ (l : List Int), l ≠ [] → ∀ a : Int, ∃ g : List Int, g.length + 1 = l.length ∧ ∀ x : Int, (x ^ l.length + evP l x) - (a ^ l.length + evP l a) = (x - a) * (x ^ g.length + evP g x) := by
  intro l
  induction l with
  | nil => intro h; exact absurd rfl h
  | cons c l ih =>
    intro _ a
    by_cases hl : l = []
    · subst hl
      refine ⟨[], rfl, fun x => ?_⟩
      have p1 : ∀ y : Int, y ^ 1 = y := fun y => by rw [Int.pow_succ, Int.pow_zero, Int.one_mul]
      show (x ^ 1 + (c + x * 0)) - (a ^ 1 + (c + a * 0)) = (x - a) * (x ^ 0 + 0)
      rw [p1, p1, Int.pow_zero]
      omega
    · obtain ⟨g, hg, he⟩ := ih hl a
      refine ⟨adP l ((g ++ [1]).map (fun c => a * c)), ?_, fun x => ?_⟩
      · rw [adP_len _ _ (by simp; omega)]
        rfl
      · rw [adP_len _ _ (by simp; omega), adP_ev, evP_sc, evP_ap]
        have h := he x
        show (x ^ (l.length + 1) + (c + x * evP l x)) - (a ^ (l.length + 1) + (c + a * evP l a)) = _
        rw [Int.pow_succ, Int.pow_succ]
        generalize evP l x = X at *
        generalize evP l a = Y at *
        generalize evP g x = G at *
        generalize x ^ l.length = U at *
        generalize a ^ l.length = V at *
        generalize x ^ g.length = T at *
        have : (x - a) * (U + (X + a * (G + T))) = (x - a) * (U + X) + a * ((x - a) * (T + G)) := by grind
        rw [this, ← h]
        grind
theorem Pr.dvI {p : Nat} {a b : Int} (hp : Pr p) (h : (p : Int) ∣ a * b) : (p : Int) ∣ a ∨ (p : Int) ∣ b := by
  rw [Int.ofNat_dvd_left, Int.natAbs_mul] at h
  rw [Int.ofNat_dvd_left, Int.ofNat_dvd_left]
  exact hp.dv h
/-- a polynomial of degree n that begins with x^n has no n + 1 roots -/
theorem roots {p : Nat} (hp : Pr p) : ∀ (n : Nat) (l : List Int) (r : Nat → Int), l.length = n → (∀ i j, i ≤ n → j ≤ n → i ≠ j → ¬ (p : Int) ∣ r i - r j) → (∀ i, i ≤ n → (p : Int) ∣ r i ^ n + evP l (r i)) → False := by
  intro n
  induction n with
  | zero =>
    intro l r hl _ h
    have hl0 : l = [] := List.eq_nil_of_length_eq_zero hl
    have h1 := h 0 (Nat.le_refl _)
    rw [hl0] at h1
    have h2 : (p : Int) ∣ 1 := by simpa [evP] using h1
    have h3 : p ∣ 1 := by rw [Int.ofNat_dvd_left] at h2; exact h2
    have := Nat.le_of_dvd (by decide) h3
    have := hp.1
    omega
  | succ n ih =>
    intro l r hl hd h
    obtain ⟨g, hg, he⟩ := evP_q l (fun z => by rw [z] at hl; simp at hl) (r (n + 1))
    have hgl : g.length = n := by omega
    refine ih g r hgl (fun i j hi hj => hd i j (by omega) (by omega)) (fun i hi => ?_)
    have e := he (r i)
    rw [hl, hgl] at e
    have h1 : (p : Int) ∣ (r i - r (n + 1)) * (r i ^ n + evP g (r i)) := by
      rw [← e]
      exact Int.dvd_sub (h i (by omega)) (h (n + 1) (Nat.le_refl _))
    rcases hp.dvI h1 with c | c
    · exact absurd c (hd i (n + 1) (by omega) (Nat.le_refl _) (by omega))
    · exact c
theorem evP_z (x : Int) : ∀ m, evP (List.replicate m 0) x = 0 := by
  intro m
  induction m with
  | zero => rfl
  | succ m ih =>
    show 0 + x * evP (List.replicate m 0) x = 0
    rw [ih]
    omega
/-- not all powers to the n are 1 -/
theorem notall {p n : Nat} (hp : Pr p) (h1 : 1 ≤ n) (h2 : n < p - 1) : ∃ a, 1 ≤ a ∧ a < p ∧ a ^ n % p ≠ 1 := by
  by_cases c : ∃ a, 1 ≤ a ∧ a < p ∧ a ^ n % p ≠ 1
  · exact c
  · exfalso
    obtain ⟨m, rfl⟩ : ∃ m, n = m + 1 := ⟨n - 1, by omega⟩
    refine roots hp (m + 1) (-1 :: List.replicate m 0) (fun i => ((i + 1 : Nat) : Int)) (by simp) (fun i j hi hj hne hdv => ?_) (fun i hi => ?_)
    · rw [Int.ofNat_dvd_left] at hdv
      have : (((i + 1 : Nat) : Int) - ((j + 1 : Nat) : Int)).natAbs ≠ 0 := by omega
      have := Nat.le_of_dvd (by omega) hdv
      omega
    · have h3 : (i + 1) ^ (m + 1) % p = 1 := by
        by_cases d : (i + 1) ^ (m + 1) % p = 1
        · exact d
        · exact absurd ⟨i + 1, by omega, by omega, d⟩ c
      have h4 := Nat.div_add_mod ((i + 1) ^ (m + 1)) p
      rw [h3] at h4
      show (p : Int) ∣ ((i + 1 : Nat) : Int) ^ (m + 1) + (-1 + ((i + 1 : Nat) : Int) * evP (List.replicate m 0) ((i + 1 : Nat) : Int))
      rw [evP_z, ← Int.natCast_pow]
      refine ⟨(((i + 1) ^ (m + 1) / p : Nat) : Int), ?_⟩
      rw [← Int.natCast_mul]
      omega
theorem pw_one {p s u : Nat} (hp : 2 ≤ p) (h : s ^ u % p = 1) (k : Nat) : s ^ (u * k) % p = 1 := by
  rw [Nat.pow_mul, Nat.pow_mod, h, Nat.one_pow]
  exact Nat.mod_eq_of_lt (by omega)
theorem pw_gcd {p s : Nat} (hp : 2 ≤ p) : ∀ u v, s ^ u % p = 1 → s ^ v % p = 1 → s ^ Nat.gcd u v % p = 1 := by
  intro u
  induction u using Nat.strongRecOn with
  | ind u ih =>
    intro v h1 h2
    by_cases c : u = 0
    · subst c
      rw [Nat.gcd_zero_left]
      exact h2
    · rw [Nat.gcd_rec]
      refine ih (v % u) (Nat.mod_lt _ (by omega)) u ?_ h1
      have e := Nat.div_add_mod v u
      rw [← e, Nat.pow_add, Nat.mul_mod, pw_one hp h1, Nat.one_mul, Nat.mod_mod] at h2
      exact h2
/-- b's powers are n different ones -/
def OrdP (p n b : Nat) : Prop := b ^ n % p = 1 ∧ ∀ q, Pr q → q ∣ n → b ^ (n / q) % p ≠ 1
theorem Pr.ex : ∀ n, 2 ≤ n → ∃ q, Pr q ∧ q ∣ n := by
  intro n
  induction n using Nat.strongRecOn with
  | ind n ih =>
    intro hn
    by_cases c : ∃ d, 2 ≤ d ∧ d < n ∧ n % d = 0
    · obtain ⟨d, d1, d2, d3⟩ := c
      obtain ⟨q, q1, q2⟩ := ih d d2 d1
      exact ⟨q, q1, Nat.dvd_trans q2 (Nat.dvd_of_mod_eq_zero d3)⟩
    · exact ⟨n, ⟨hn, fun d d1 d2 d3 => c ⟨d, d1, d2, d3⟩⟩, Nat.dvd_refl n⟩
theorem pw_split2 {q : Nat} (hq : 2 ≤ q) : ∀ n, 0 < n → ∃ e m, n = q ^ e * m ∧ ¬ q ∣ m := by
  intro n
  induction n using Nat.strongRecOn with
  | ind n ih =>
    intro hn
    by_cases c : q ∣ n
    · obtain ⟨z, hz⟩ := c
      have z0 : 0 < z := Nat.pos_of_ne_zero (fun y => by rw [y, Nat.mul_zero] at hz; omega)
      have zl : z < n := by
        rw [hz]
        have := Nat.mul_le_mul_right z hq
        omega
      obtain ⟨e, m, h1, h2⟩ := ih z zl z0
      exact ⟨e + 1, m, by rw [hz, h1, Nat.pow_succ]; grind, h2⟩
    · exact ⟨0, n, by rw [Nat.pow_zero, Nat.one_mul], c⟩
theorem ord_ex {p : Nat} (hp : Pr p) : ∀ n, 0 < n → n ∣ p - 1 → ∃ b, OrdP p n b := by
  have p2 := hp.1
  intro n
  induction n using Nat.strongRecOn with
  | ind n ih =>
    intro hn hd
    by_cases c : n = 1
    · subst c
      refine ⟨1, by rw [Nat.pow_one]; exact Nat.mod_eq_of_lt (by omega), fun q hq hq1 => ?_⟩
      have := Nat.le_of_dvd (by decide) hq1
      have := hq.1
      omega
    · obtain ⟨q, hq, hqn⟩ := Pr.ex n (by omega)
      have q2 := hq.1
      obtain ⟨e, m, hnm, hqm⟩ := pw_split2 q2 n hn
      have e0 : e ≠ 0 := fun z => by
        rw [z, Nat.pow_zero, Nat.one_mul] at hnm
        rw [hnm] at hqn
        exact hqm hqn
      obtain ⟨e', rfl⟩ : ∃ e', e = e' + 1 := ⟨e - 1, by omega⟩
      have m0 : 0 < m := Nat.pos_of_ne_zero (fun z => hqm (by rw [z]; exact Nat.dvd_zero q))
      have qe : 2 ≤ q ^ (e' + 1) := by
        rw [Nat.pow_succ]
        have : 1 ≤ q ^ e' := Nat.pow_pos (by omega)
        have := Nat.mul_le_mul this q2
        omega
      have mn : m < n := by
        rw [hnm]
        have := Nat.mul_le_mul_right m qe
        omega
      obtain ⟨cc, hc1, hc2⟩ := ih m mn m0 (Nat.dvd_trans ⟨q ^ (e' + 1), by rw [hnm, Nat.mul_comm]⟩ hd)
      -- an element of order q ^ (e' + 1)
      have hqd : q ^ (e' + 1) ∣ p - 1 := Nat.dvd_trans ⟨m, hnm⟩ hd
      obtain ⟨k, hk⟩ := hqd
      have k0 : 0 < k := Nat.pos_of_ne_zero (fun z => by rw [z, Nat.mul_zero] at hk; omega)
      have hN : 1 ≤ q ^ e' * k := Nat.mul_pos (Nat.pow_pos (by omega)) k0
      have hN2 : q ^ e' * k < p - 1 := by
        rw [hk, Nat.pow_succ]
        have : q ^ e' * q * k = q * (q ^ e' * k) := by grind
        rw [this]
        have := Nat.mul_le_mul_right (q ^ e' * k) q2
        omega
      obtain ⟨a, a1, a2, a3⟩ := notall hp hN hN2
      have ap : ¬ p ∣ a := fun z => by have := Nat.le_of_dvd (by omega) z; omega
      have fa := fermat hp ap
      have hb1 : (a ^ k) ^ (q ^ (e' + 1)) % p = 1 := by
        rw [← Nat.pow_mul, Nat.mul_comm, ← hk]
        exact fa
      have hb2 : (a ^ k) ^ (q ^ e') % p ≠ 1 := by
        rw [← Nat.pow_mul, Nat.mul_comm]
        exact a3
      generalize a ^ k = b at *
      refine ⟨b * cc, ?_, fun r hr hrn => ?_⟩
      · rw [Nat.mul_pow, Nat.mul_mod, hnm, pw_one p2 hb1, Nat.mul_comm (q ^ (e' + 1)) m, pw_one p2 hc1]
        exact Nat.mod_eq_of_lt (by omega)
      · by_cases rq : r = q
        · subst rq
          have en : n / r = r ^ e' * m := by
            rw [hnm, Nat.pow_succ, show r ^ e' * r * m = r * (r ^ e' * m) by grind, Nat.mul_div_cancel_left _ (by omega)]
          rw [en, Nat.mul_pow, Nat.mul_mod, Nat.mul_comm (r ^ e') m, pw_one p2 hc1, Nat.mul_one, Nat.mod_mod, Nat.mul_comm m]
          intro h
          refine hb2 ?_
          have h3 : (b ^ (r ^ e')) ^ m % p = 1 := by rw [← Nat.pow_mul]; exact h
          have h4 : (b ^ (r ^ e')) ^ r % p = 1 := by rw [← Nat.pow_mul, ← Nat.pow_succ]; exact hb1
          have h5 := pw_gcd p2 _ _ h4 h3
          rw [hr.cop hqm, Nat.pow_one] at h5
          exact h5
        · have rm : r ∣ m := by
            rw [hnm] at hrn
            rcases hr.dv hrn with z | z
            · have z1 := hr.pow z
              have z2 := Nat.le_of_dvd (by omega) z1
              have z3 := hq.2 r hr.1 (by omega)
              exact absurd (Nat.mod_eq_zero_of_dvd z1) z3
            · exact z
          obtain ⟨t, ht⟩ := rm
          have en : n / r = q ^ (e' + 1) * t := by
            rw [hnm, ht, show q ^ (e' + 1) * (r * t) = r * (q ^ (e' + 1) * t) by grind, Nat.mul_div_cancel_left _ (by have := hr.1; omega)]
          have em : m / r = t := by rw [ht, Nat.mul_div_cancel_left _ (by have := hr.1; omega)]
          have hc3 := hc2 r hr ⟨t, ht⟩
          rw [em] at hc3
          rw [en, Nat.mul_pow, Nat.mul_mod, pw_one p2 hb1, Nat.one_mul, Nat.mod_mod, Nat.mul_comm]
          intro h
          refine hc3 ?_
          have h3 : (cc ^ t) ^ (q ^ (e' + 1)) % p = 1 := by rw [← Nat.pow_mul]; exact h
          have h4 : (cc ^ t) ^ r % p = 1 := by rw [← Nat.pow_mul, Nat.mul_comm, ← ht]; exact hc1
          have h5 := pw_gcd p2 _ _ h4 h3
          have h6 : ¬ r ∣ q ^ (e' + 1) := fun z => by
            have z1 := hr.pow z
            have z2 := Nat.le_of_dvd (by omega) z1
            have z3 := hq.2 r hr.1 (by omega)
            exact absurd (Nat.mod_eq_zero_of_dvd z1) z3
          rw [hr.cop h6, Nat.pow_one] at h5
          exact h5
/-- a witness that p is a prime -/
def Wit (p w : Nat) : Prop := OrdP p (p - 1) w
theorem wit_ex {p : Nat} (hp : Pr p) : ∃ w, 1 ≤ w ∧ w < p ∧ Wit p w := by
  have p2 := hp.1
  obtain ⟨b, h1, h2⟩ := ord_ex hp (p - 1) (by omega) (Nat.dvd_refl _)
  have hm : ∀ k, (b % p) ^ k % p = b ^ k % p := fun k => by rw [← Nat.pow_mod]
  refine ⟨b % p, ?_, Nat.mod_lt _ (by omega), by rw [hm]; exact h1, fun q a c => by rw [hm]; exact h2 q a c⟩
  refine Nat.pos_of_ne_zero (fun z => ?_)
  have := hm (p - 1)
  rw [z, h1, Nat.zero_pow (by omega)] at this
  rw [Nat.zero_mod] at this
  omega
