/-! ===== the reference: setLimb ===== -/
/-- v with the limb w at place i -/
def stV (v i w : Nat) : Nat := v % 32768 ^ i + 32768 ^ i * (w + 32768 * (v / 32768 ^ (i + 1)))
theorem dg_md {a n j : Nat} (h : j < n) : dg (a % 32768 ^ n) j = dg a j := by
  unfold dg
  rw [show n = j + (n - j) by omega, Nat.pow_add, Nat.mod_mul_right_div_self, Nat.mod_mod_of_dvd]
  exact ⟨32768 ^ (n - j - 1), by rw [show n - j = (n - j - 1) + 1 by omega, nn_succ, Nat.add_sub_cancel, Nat.mul_comm]⟩
theorem dg_hi (v k m : Nat) : dg v (k + m) = dg (v / 32768 ^ k) m := by
  unfold dg
  rw [Nat.pow_add, ← Nat.div_div_eq_div_mul]
theorem stV_dg {v i w : Nat} (hw : w < 32768) (j : Nat) : dg (stV v i w) j = if j = i then w else dg v j := by
  have hp := nn_pos i
  have hlo : v % 32768 ^ i < 32768 ^ i := Nat.mod_lt _ hp
  have e1 : stV v i w / 32768 ^ i = w + 32768 * (v / 32768 ^ (i + 1)) := by
    unfold stV
    rw [Nat.add_mul_div_left _ _ hp, Nat.div_eq_of_lt hlo, Nat.zero_add]
  by_cases c : j = i
  · rw [if_pos c, c]
    show stV v i w / 32768 ^ i % 32768 = w
    rw [e1]
    omega
  · rw [if_neg c]
    by_cases c2 : j < i
    · rw [← dg_md c2, ← dg_md (a := v) c2]
      congr 1
      unfold stV
      rw [Nat.add_mul_mod_self_left, Nat.mod_mod]
    · obtain ⟨m, rfl⟩ : ∃ m, j = (i + 1) + m := ⟨j - i - 1, by omega⟩
      rw [dg_hi, dg_hi]
      congr 1
      rw [nn_succ, ← Nat.div_div_eq_div_mul, e1, nn_succ]
      omega
theorem stV_lt {v i w L : Nat} (hw : w < 32768) (h1 : nd v ≤ L) (h2 : i < L) : stV v i w < 32768 ^ L := by
  have hp := nn_pos i
  have hlo : v % 32768 ^ i < 32768 ^ i := Nat.mod_lt _ hp
  have hv := nd_le.mp h1
  have e : 32768 ^ L = 32768 ^ (i + 1) * 32768 ^ (L - (i + 1)) := by rw [← Nat.pow_add, show i + 1 + (L - (i + 1)) = L by omega]
  have hh : v / 32768 ^ (i + 1) < 32768 ^ (L - (i + 1)) := (Nat.div_lt_iff_lt_mul (nn_pos _)).mpr (by rw [Nat.mul_comm, ← e]; exact hv)
  rw [e]
  have h3 := Nat.mul_le_mul_left (32768 ^ (i + 1)) (Nat.succ_le_of_lt hh)
  refine Nat.lt_of_lt_of_le ?_ h3
  unfold stV
  rw [nn_succ]
  generalize v / (32768 ^ i * 32768) = x at *
  generalize v % 32768 ^ i = y at *
  generalize 32768 ^ i = p at *
  have : p * 32768 * x.succ = p * (32768 * x) + p * 32768 := by
    show p * 32768 * (x + 1) = _
    grind
  have e2 : p * (w + 32768 * x) = p * w + p * (32768 * x) := by grind
  have e3 : p * w ≤ p * 32767 := Nat.mul_le_mul_left _ (by omega)
  omega
theorem RN.set {n : Nn} {M M' : Mem} {q : RS} {h v : Nat} {tk : Nat} (R : RN n M tk q) (h1 : h < n.1) (h2 : 0 < q.2.1 h) (hF : FrM M M' h) (hv : MH M' h v) (hn : (nd v : Int) ≤ q.2.1 h) : RN n M' tk (q.1, q.2.1, q.2.2.1, va_up q.2.2.2 h v) := by
  have n24 := R.n24
  refine ⟨R.1.mov hF.1, by rw [hF.1 50 (by decide) (by decide)]; exact R.2.1, fun t a1 a2 => ?_, fun t a1 a2 => ?_⟩
  · have A := R.2.2.1 t a1 a2
    show (nd (va_up q.2.2.2 h v t) : Int) ≤ q.2.1 t ∧ _
    by_cases c : t = h
    · subst c
      rw [va_up_self]
      exact ⟨hn, A.2⟩
    · rw [va_up_ne _ _ c]
      exact A
  · show MH M' t (va_up q.2.2.2 h v t)
    by_cases c : t = h
    · subst c
      rw [va_up_self]
      exact hv
    · rw [va_up_ne _ _ c]
      have A := R.at a1 a2
      exact hF.keep c A.2.2.2.1 (by omega)
def stlF (n : Nn) (q : RS) (h i w : Int) : Int × RS := if Lv n q h then (if 0 ≤ i ∧ i < q.2.1 h.toNat ∧ 0 ≤ w ∧ w ≤ 32767 then ((nd (stV (q.2.2.2 h.toNat) i.toNat w.toNat) : Int), (q.1, q.2.1, q.2.2.1, va_up q.2.2.2 h.toNat (stV (q.2.2.2 h.toNat) i.toNat w.toNat))) else (-3, q)) else (-2, q)
theorem v_setLimb (n0 : Nn) : Ver tX8_setLimb (fdX8, icX8, lcX8, [(138, some 8, c_isLiveL), (127, none, c_isIn), (80, some 8, c_put), (85, some 8, c_fix)]) 1 5 n0 (cN3 stlF) := by
  rintro ⟨n, q, h, i, w⟩ vs M0 ⟨rfl, ih, ii, iw, R⟩ aw run
  have ii0 := ii
  have iw0 := iw
  unfold inR at ii0 iw0
  have l52 : lnF n0 52 = 37 := rfl
  have l54 : lnF n0 54 = 24 := rfl
  change aw 0 [some (.inr (.inr 50)), some (.inl h), some (.inl i), some (.inl w), none] [] M0
  refine run 90 [38, 49] _ _ _ _ ?_
  refine And.intro rfl ⟨(n, 0, q, h), ⟨rfl, ih, R⟩, ?_⟩
  rintro x M0 ⟨⟨rfl, hh⟩ | ⟨rfl, hh⟩, rfl⟩
  rotate_left
  · refine And.intro ⟨⟨by omega, by omega⟩, ⟨by omega, by omega⟩⟩ (And.intro (fun c1 => absurd c1 (by omega)) (fun _ => ?_))
    have e : stlF n q h i w = (-2, q) := if_neg hh
    refine Or.inl ?_
    show -2 = ((stlF n q h i w)).1 ∧ RN n M0 0 ((stlF n q h i w)).2 ∧ FN M0 M0
    rw [e]
    exact ⟨rfl, R, FN.rf _⟩
  refine And.intro ⟨⟨by omega, by omega⟩, ⟨by omega, by omega⟩⟩ (And.intro (fun _ => ?_) (fun c2 => absurd c2 (by omega)))
  have b2 := R.n24
  obtain ⟨h, rfl, h_1, h_2⟩ := hh.nat
  have Ah := R.at h_1 h_2
  have e : stlF n q h i w = (if 0 ≤ i ∧ i < q.2.1 h ∧ 0 ≤ w ∧ w ≤ 32767 then ((nd (stV (q.2.2.2 h) i.toNat w.toNat) : Int), (q.1, q.2.1, q.2.2.1, va_up q.2.2.2 h (stV (q.2.2.2 h) i.toNat w.toNat))) else (-3, q)) := if_pos (Lv.of h_1 h_2)
  have bad : ¬ (0 ≤ i ∧ i < q.2.1 h ∧ 0 ≤ w ∧ w ≤ 32767) → aw 38 [some (.inr (.inr 50)), some (.inl (h : Int)), some (.inl i), some (.inl w), none] [] M0 := by
    intro hb
    rw [if_neg hb] at e
    refine run 60 [] _ _ _ _ ?_
    refine Or.inl ?_
    show -3 = ((stlF n q h i w)).1 ∧ RN n M0 0 ((stlF n q h i w)).2 ∧ FN M0 M0
    rw [e]
    exact ⟨rfl, R, FN.rf _⟩
  obtain ⟨a1, a2, a3, a4, a5, a6, a7, a8⟩ := Ah
  refine And.intro rfl (And.intro ⟨rfl, by omega, by omega⟩ ?_)
  conv => whnf
  rw [Int.toNat_natCast, a2]
  refine ⟨(i, 0, q.2.1 h - 1), ⟨rfl, ii, ⟨by omega, by omega⟩, ⟨by omega, by omega⟩⟩, ?_⟩
  rintro x M0 ⟨rfl, rfl⟩
  by_cases hi : 0 ≤ i ∧ i ≤ q.2.1 h - 1
  rotate_left
  · rw [if_neg hi]
    refine And.intro ⟨⟨by omega, by omega⟩, ⟨by omega, by omega⟩⟩ (And.intro (fun _ => ?_) (fun c2 => absurd c2 (by omega)))
    exact And.intro (bad (fun z => by omega)) trivial
  rw [if_pos hi]
  refine And.intro ⟨⟨by omega, by omega⟩, ⟨by omega, by omega⟩⟩ (And.intro (fun c1 => absurd c1 (by omega)) (fun _ => ?_))
  refine ⟨(w, 0, 32767), ⟨rfl, iw, ⟨by omega, by omega⟩, ⟨by omega, by omega⟩⟩, ?_⟩
  rintro x M0 ⟨rfl, rfl⟩
  by_cases hw : 0 ≤ w ∧ w ≤ 32767
  rotate_left
  · rw [if_neg hw]
    refine And.intro ⟨⟨by omega, by omega⟩, ⟨by omega, by omega⟩⟩ (And.intro (fun c1 => absurd c1 (by omega)) (fun _ => ?_))
    exact And.intro (bad (fun z => by omega)) trivial
  rw [if_pos hw]
  refine And.intro ⟨⟨by omega, by omega⟩, ⟨by omega, by omega⟩⟩ (And.intro (fun _ => ?_) (fun c2 => absurd c2 (by omega)))
  rw [if_pos (by omega)] at e
  obtain ⟨i, rfl⟩ : ∃ k : Nat, i = (k : Int) := ⟨i.toNat, by omega⟩
  obtain ⟨w, rfl⟩ : ∃ k : Nat, w = (k : Int) := ⟨w.toNat, by omega⟩
  rw [Int.toNat_natCast, Int.toNat_natCast] at e
  have fin : ∀ (M : Mem) (L : Nat) (x4 : Int), L = max (nd (q.2.2.2 h)) (i + 1) → (∀ j, j < L → M 51 (420 * h + j) = (dg (q.2.2.2 h) j : Int)) → M 52 h = (nd (q.2.2.2 h) : Int) → FrM M0 M h → aw 93 [some (.inr (.inr 50)), some (.inl (h : Int)), some (.inl (i : Int)), some (.inl (w : Int)), some (.inl x4)] [.inl (L : Int)] M := by
    intro M L x4 eL hD hl hF
    refine run 60 [] _ _ _ _ ?_
    refine And.intro rfl ⟨(h, i, (w : Int)), ⟨rfl, by omega⟩, ?_⟩
    rintro M2 rfl
    have hF2 : FrM M _ h := FrM.put (x := (w : Int)) (i := i) (by omega)
    have hD2 : ∀ j, j < L → up2 M 51 (420 * h + i) (w : Int) 51 (420 * h + j) = (dg (stV (q.2.2.2 h) i w) j : Int) := by
      intro j hj
      rw [stV_dg (by omega)]
      by_cases c : j = i
      · rw [if_pos c, c, up2_s]
      · rw [if_neg c, up2_k (by omega)]
        exact hD j hj
    have hlt : stV (q.2.2.2 h) i w < 32768 ^ L := stV_lt (by omega) (by omega) (by omega)
    have hnl : nd (stV (q.2.2.2 h) i w) ≤ L := nd_le.mpr hlt
    refine And.intro rfl ⟨(h, L, stV (q.2.2.2 h) i w), ⟨rfl, by omega, by omega, hlt, hD2⟩, ?_⟩
    rintro M3 rfl
    have hx := MH_fix hD2 hlt
    have hF3 := (hF.tr hF2).tr (FrM.len (x := (nd (stV (q.2.2.2 h) i w) : Int)))
    refine And.intro rfl (And.intro ⟨rfl, by omega, by omega⟩ ?_)
    refine Or.inl ?_
    show up2 _ 52 h _ 52 h = (stlF n q h i w).1 ∧ RN n (up2 (up2 M 51 (420 * h + i) (w : Int)) 52 h (nd (stV (q.2.2.2 h) i w) : Int)) 0 (stlF n q h i w).2 ∧ FN M0 (up2 (up2 M 51 (420 * h + i) (w : Int)) 52 h (nd (stV (q.2.2.2 h) i w) : Int))
    rw [e]
    exact ⟨up2_s, R.set h_1 h_2 hF3 hx (by omega), hF3.N⟩
  have loop : ∀ (r k : Nat) (M : Mem), k + r = max (nd (q.2.2.2 h)) (i + 1) → nd (q.2.2.2 h) ≤ k → (∀ j, j < k → M 51 (420 * h + j) = (dg (q.2.2.2 h) j : Int)) → M 52 h = (nd (q.2.2.2 h) : Int) → FrM M0 M h → aw 49 [some (.inr (.inr 50)), some (.inl (h : Int)), some (.inl (i : Int)), some (.inl (w : Int)), some (.inl (k : Int))] [] M := by
    intro r
    induction r with
    | zero =>
      intro k M hk hk2 hD hl hF
      refine run 60 [49, 93] _ _ _ _ ?_
      refine And.intro ⟨⟨by omega, by omega⟩, ⟨by omega, by omega⟩⟩ (And.intro (fun _ => ?_) (fun c2 => absurd c2 (by omega)))
      refine And.intro rfl (And.intro ⟨rfl, by omega, by omega⟩ ?_)
      conv => whnf
      rw [Int.toNat_natCast, hl]
      refine And.intro ⟨⟨by omega, by omega⟩, ⟨by omega, by omega⟩⟩ (And.intro (fun c1 => ?_) (fun c2 => ?_))
      · refine And.intro ?_ trivial
        exact fin M (i + 1) k (by omega) (fun j hj => hD j (by omega)) hl hF
      · refine And.intro rfl (And.intro ⟨rfl, by omega, by omega⟩ ?_)
        refine And.intro ?_ trivial
        rw [Int.toNat_natCast, hl]
        exact fin M (nd (q.2.2.2 h)) k (by omega) (fun j hj => hD j (by omega)) hl hF
    | succ r ih =>
      intro k M hk hk2 hD hl hF
      refine run 60 [49, 93] _ _ _ _ ?_
      refine And.intro ⟨⟨by omega, by omega⟩, ⟨by omega, by omega⟩⟩ (And.intro (fun c1 => absurd c1 (by omega)) (fun _ => ?_))
      refine And.intro rfl ⟨(h, k, 0), ⟨rfl, by omega⟩, ?_⟩
      rintro M2 rfl
      refine And.intro ?_ trivial
      refine ih (k + 1) _ (by omega) (by omega) (fun j hj => ?_) (by rw [up2_i (by decide)]; exact hl) (hF.tr (FrM.put (by omega)))
      by_cases c : j = k
      · rw [c, up2_s, dg_z hk2]
        rfl
      · rw [up2_k (by omega)]
        exact hD j (by omega)
  refine And.intro rfl (And.intro ⟨rfl, by omega, by omega⟩ ?_)
  refine And.intro ?_ trivial
  rw [Int.toNat_natCast, a8]
  exact loop (max (nd (q.2.2.2 h)) (i + 1) - nd (q.2.2.2 h)) _ M0 (by omega) (Nat.le_refl _) a4.2 a8 (FrM.rf _ _)
theorem imX8_setLimb {l : Launch} {Z : ZT} (hZ : ZOk Z) : Impl l Z yX8_setLimb cX8_setLimb 5 (some .int) 3 (cN3 stlF) := mkImpl (rt := 1) (CL := [(138, some 8, c_isLiveL), (127, none, c_isIn), (80, some 8, c_put), (85, some 8, c_fix)]) hZ.1 hZ.2.1 (by decide +kernel) kX8_setLimb fwX8 iwX8 lwX8 trivial (Nat.le_of_ble_eq_true rfl) (List.forall_mem_cons.mpr ⟨gX8_138_L hZ (by decide), List.forall_mem_cons.mpr ⟨gX8_127 hZ (by decide), List.forall_mem_cons.mpr ⟨gX8_80 hZ (by decide), List.forall_mem_cons.mpr ⟨gX8_85 hZ (by decide), fun q h => absurd h List.not_mem_nil⟩⟩⟩⟩) ((v_setLimb _))
