/-! ===== certificates: when a node is good ===== -/
/-- the number of L limbs behind place p -/
def vW (W : WS) (p L : Nat) : Nat := match L with
  | 0 => 0
  | L + 1 => vW W p L + 32768 ^ L * (W.2 (p + 1 + L)).toNat
/-- the number told at p -/
def nvW (W : WS) (p : Nat) : Nat := vW W p (W.2 p).toNat
theorem vW_lt {W : WS} {p L : Nat} (h : ∀ i, i < L → 0 ≤ W.2 (p + 1 + i) ∧ W.2 (p + 1 + i) ≤ 32767) : vW W p L < 32768 ^ L := by
  induction L with
  | zero => exact Nat.one_pos
  | succ L ih =>
    have h1 := ih (fun i hi => h i (by omega))
    have h2 := h L (by omega)
    rw [vW, nn_succ]
    have h3 : 32768 ^ L * (W.2 (p + 1 + L)).toNat ≤ 32768 ^ L * 32767 := Nat.mul_le_mul_left _ (by omega)
    omega
theorem vW_dg {W : WS} {p : Nat} : ∀ {L i : Nat}, (∀ i, i < L → 0 ≤ W.2 (p + 1 + i) ∧ W.2 (p + 1 + i) ≤ 32767) → i < L → dg (vW W p L) i = (W.2 (p + 1 + i)).toNat := by
  intro L
  induction L with
  | zero => intro i _ hi; omega
  | succ L ih =>
    intro i h hi
    have h1 := vW_lt (L := L) (fun i hi => h i (by omega))
    have h2 := h L (by omega)
    rw [vW]
    by_cases c : i = L
    · subst c
      unfold dg
      rw [Nat.add_mul_div_left _ _ (nn_pos i), Nat.div_eq_of_lt h1, Nat.zero_add]
      exact Nat.mod_eq_of_lt (by omega)
    · rw [← dg_md (n := L) (by omega), Nat.add_mul_mod_self_left, Nat.mod_eq_of_lt h1]
      exact ih (fun i hi => h i (by omega)) (by omega)
theorem wn_of {M : Mem} {W : WS} {p : Nat} (hW : WB M W) (hp : pE W p ≠ 0) : WN M 60 p (W.2 p).toNat (nvW W p) ∧ nd (nvW W p) = (W.2 p).toNat ∧ (W.2 p).toNat ≤ 64 ∧ p + (W.2 p).toNat < W.1 ∧ 1 ≤ nvW W p := by
  obtain ⟨h1, h2, h3⟩ := hW
  obtain ⟨b1, b2, b3, b4, b5, b6, b7, b8⟩ := pE_b hp
  have hb : ∀ i, i < (W.2 p).toNat → 0 ≤ W.2 (p + 1 + i) ∧ W.2 (p + 1 + i) ≤ 32767 := fun i hi => (h3 (p + 1 + i) (by omega)).2
  have hlt := vW_lt hb
  have htop : dg (nvW W p) ((W.2 p).toNat - 1) = (W.2 (p + 1 + ((W.2 p).toNat - 1))).toNat := vW_dg hb (by omega)
  rw [show p + 1 + ((W.2 p).toNat - 1) = p + (W.2 p).toNat by omega] at htop
  have hw := (h3 _ b6).2
  have hnd : nd (nvW W p) = (W.2 p).toNat := by
    have := nd_up (v := nvW W p) (j := (W.2 p).toNat - 1) (by rw [show (W.2 p).toNat - 1 + 1 = (W.2 p).toNat by omega]; exact nd_le.mpr hlt) (by rw [htop]; omega)
    omega
  refine ⟨⟨?_, hlt, fun i hi => ?_⟩, hnd, by omega, b6, ?_⟩
  · rw [(h3 p b3).1]
    omega
  · rw [(h3 (p + 1 + i) (by omega)).1]
    have e : dg (nvW W p) i = (W.2 (p + 1 + i)).toNat := vW_dg hb hi
    rw [e]
    have := hb i hi
    omega
  · have : nd (nvW W p) ≠ 0 := by omega
    exact Nat.one_le_iff_ne_zero.mpr (fun z => this (nd_z.mpr z))
def NdOk (W : WS) (d : ND) : Prop := (o1 W d.1).2.2 ≠ 0 ∧ d.2.2.2 = (o1 W d.1).2.1 ∧ 1 ≤ d.2.2.1 ∧ d.2.2.1 ≤ 960
/-- every node that was read is one -/
theorem ks_ok {W : WS} {f : Nat → Int → Int → Nat → Nat × List ND} (hf : ∀ pos par t idx, 1 ≤ t → t ≤ 960 → ∀ d ∈ (f pos par t idx).2, NdOk W d) : ∀ {k : Nat} {par : Int} {e idx : Nat}, ∀ d ∈ (ksL W f par k e idx).2, NdOk W d := by
  intro k
  induction k with
  | zero => intro par e idx d hd; exact absurd hd (List.not_mem_nil)
  | succ k ih =>
    intro par e idx d hd
    rw [ksL] at hd
    split at hd
    · rename_i c
      rcases List.mem_append.mp hd with h | h
      · exact hf _ _ _ _ c.2.1 c.2.2.1 d h
      · exact ih d h
    · exact absurd hd (List.not_mem_nil)
theorem nd_ok {W : WS} : ∀ {r pos : Nat} {par t : Int} {idx : Nat}, 1 ≤ t → t ≤ 960 → ∀ d ∈ (ndL W r pos par t idx).2, NdOk W d := by
  intro r
  induction r with
  | zero => intro pos par t idx _ _ d hd; exact absurd hd (List.not_mem_nil)
  | succ r ih =>
    intro pos par t idx h1 h2 d hd
    rw [ndL] at hd
    split at hd
    · rename_i c
      rcases List.mem_cons.mp hd with h | h
      · subst h
        exact ⟨c.1, rfl, h1, h2⟩
      · exact ks_ok (fun pos par t idx a b => ih a b) d h
    · exact absurd hd (List.not_mem_nil)
/-- the factors of node k -/
def chs (L : List ND) (k : Nat) : List ND := (L.drop (k + 1)).filter (fun d => decide (d.2.1 = (k : Int)))
def IncP (W : WS) (P prev : Nat) (l : List ND) : Prop := match l with
  | [] => True
  | d :: r => prev < nvW W d.1 ∧ nvW W d.1 < P ∧ IncP W P (nvW W d.1) r
def prF (W : WS) (l : List ND) : Nat := match l with
  | [] => 1
  | d :: r => nvW W d.1 ^ d.2.2.1.toNat * prF W r
theorem prF_pos {W : WS} : ∀ {l : List ND}, (∀ d ∈ l, 1 ≤ nvW W d.1) → 1 ≤ prF W l := by
  intro l
  induction l with
  | nil => intro _; exact Nat.le_refl _
  | cons d r ih =>
    intro h
    rw [prF]
    have h1 := ih (fun x hx => h x (List.mem_cons_of_mem _ hx))
    have h2 : 0 < nvW W d.1 ^ d.2.2.1.toNat := Nat.pow_pos (h d List.mem_cons_self)
    exact Nat.mul_pos h2 h1
def GoodN (W : WS) (L : List ND) (k : Nat) (d : ND) : Prop := isT W d.1 ∨ (nvW W d.2.2.2.toNat < nvW W d.1 ∧ (IncP W (nvW W d.1) 0 (chs L k) ∧ prF W (chs L k) = nvW W d.1 - 1) ∧ nvW W d.2.2.2.toNat ^ (nvW W d.1 - 1) % nvW W d.1 = 1 ∧ ∀ c ∈ chs L k, nvW W d.2.2.2.toNat ^ ((nvW W d.1 - 1) / nvW W c.1) % nvW W d.1 ≠ 1)
def c_isGood : Call := ⟨WS × List ND × Nat × ND, 2, (fun (W, L, k, d) vs M => vs = [.inr (.inr 50), .inl (k : Int)] ∧ WB M W ∧ NdM M L ∧ L[k]? = some d ∧ (∀ c ∈ L, NdOk W c) ∧ 2 * L.length ≤ 400), .inr (fun (W, L, k, d) _ M x M' => ((x = 1 ∧ GoodN W L k d) ∨ (x = 0 ∧ ¬ GoodN W L k d)) ∧ FrL M M' SCL)⟩
theorem NdOk.w {M : Mem} {W : WS} {d : ND} (h : NdOk W d) (hW : WB M W) : pE W d.1 ≠ 0 ∧ 1 ≤ nvW W d.1 ∧ nd (nvW W d.1) ≤ 64 ∧ d.1 + (W.2 d.1).toNat < W.1 ∧ 1 ≤ W.2 d.1 := by
  have b := o1_b h.1
  have w := wn_of hW b.1
  have c := pE_b b.1
  exact ⟨b.1, w.2.2.2.2, by omega, w.2.2.2.1, c.2.2.2.1⟩
theorem FrL.sub {M M' : Mem} {L L' : List Nat} (h : FrL M M' L) (hs : ∀ s ∈ L, s ∈ L') : FrL M M' L' := ⟨h.1, fun s a => h.2.1 s (fun z => a (hs s z)), fun j a => h.2.2 j (fun s z => a s (hs s z))⟩
theorem drop_get {L : List ND} {j : Nat} (h : j < L.length) : ∃ d, L[j]? = some d ∧ L.drop j = d :: L.drop (j + 1) ∧ d ∈ L := ⟨L[j], List.getElem?_eq_getElem h, List.drop_eq_getElem_cons h, List.getElem_mem h⟩
theorem chs_st {L : List ND} {j k : Nat} {d : ND} (h : L.drop j = d :: L.drop (j + 1)) : (L.drop j).filter (fun d => decide (d.2.1 = (k : Int))) = if d.2.1 = (k : Int) then d :: (L.drop (j + 1)).filter (fun d => decide (d.2.1 = (k : Int))) else (L.drop (j + 1)).filter (fun d => decide (d.2.1 = (k : Int))) := by
  rw [h, List.filter_cons]
  by_cases c : d.2.1 = (k : Int)
  · rw [if_pos c, if_pos (by simpa using c)]
  · rw [if_neg c, if_neg (by simpa using c)]
set_option maxHeartbeats 2000000 in
theorem v_isGood (n0 : Nn) : Ver tX8_isGood (fdX8, icX8, lcX8, [(184, some 8, c_isTwo), (191, some 8, c_load), (91, some 8, c_compared), (94, some 8, c_small), (101, some 8, c_copy), (108, some 8, c_product), (156, some 8, c_difference), (159, some 8, c_power), (165, some 8, c_isOne), (97, some 8, c_divide)]) 2 4 n0 c_isGood := by
  rintro ⟨W, L, k, d⟩ vs M0 ⟨rfl, hW, hN, hk, hOk, h400⟩ aw run
  have l52 : lnF n0 52 = 37 := rfl
  have l61 : lnF n0 61 = 220 := rfl
  have l62 : lnF n0 62 = 220 := rfl
  have l63 : lnF n0 63 = 220 := rfl
  have l64 : lnF n0 64 = 220 := rfl
  have hkl : k < L.length := by
    rcases Nat.lt_or_ge k L.length with h | h
    · exact h
    · rw [List.getElem?_eq_none h] at hk
      exact absurd hk (by simp)
  have hdm : d ∈ L := List.mem_of_getElem? hk
  have hd := hOk d hdm
  obtain ⟨n61, n62, n63, n64, n65, n66⟩ := hN.2 k d hk
  obtain ⟨w1, w2, w3, w4, w5⟩ := hd.w hW
  have ob := o1_b hd.1
  have hpos : ∀ c ∈ L, 1 ≤ nvW W c.1 := fun c hc => ((hOk c hc).w hW).2.1
  change aw 0 [some (.inr (.inr 50)), some (.inl (k : Int)), none, none] [] M0
  refine run 90 [66] _ _ _ _ ?_
  refine And.intro rfl ⟨(W, k, d.1), ⟨rfl, hW, by omega, n61, by omega⟩, ?_⟩
  rintro x M0 ⟨⟨rfl, hT⟩ | ⟨rfl, hT⟩, rfl⟩
  · refine And.intro ⟨⟨by omega, by omega⟩, ⟨by omega, by omega⟩⟩ (And.intro (fun c1 => absurd c1 (by omega)) (fun _ => ?_))
    exact And.intro (Or.inr rfl) (Or.inl ⟨Or.inl ⟨rfl, Or.inl hT⟩, FrL.rf _ _⟩)
  refine And.intro ⟨⟨by omega, by omega⟩, ⟨by omega, by omega⟩⟩ (And.intro (fun _ => ?_) (fun c2 => absurd c2 (by omega)))
  obtain ⟨_, ow, op⟩ : ¬ isT W d.1 ∧ (o1 W d.1).2.1 = (pE W d.1 : Int) ∧ pE W (pE W d.1) ≠ 0 := by
    rcases ob.2.2.2.2 with h | h
    · exact absurd h.1 hT
    · exact h
  have ewp : d.2.2.2 = (pE W d.1 : Int) := hd.2.1.trans ow
  have wP := wn_of hW w1
  have wQ := wn_of hW op
  have hW400 := hW.2.1
  obtain ⟨P, eP⟩ : ∃ P, P = nvW W d.1 := ⟨_, rfl⟩
  obtain ⟨w, ew⟩ : ∃ w, w = nvW W (pE W d.1) := ⟨_, rfl⟩
  have eG : GoodN W L k d ↔ (w < P ∧ (IncP W P 0 (chs L k) ∧ prF W (chs L k) = P - 1) ∧ w ^ (P - 1) % P = 1 ∧ ∀ c ∈ chs L k, w ^ ((P - 1) / nvW W c.1) % P ≠ 1) := by
    unfold GoodN
    rw [ewp, Int.toNat_natCast, ← eP, ← ew]
    exact ⟨fun z => z.resolve_left hT, Or.inr⟩
  rw [← eP] at wP w2 w3
  rw [← ew] at wQ
  have nw : nd w ≤ 64 := by omega
  have fail : ∀ M, FrL M0 M SCL → ¬ GoodN W L k d → ((((0 : Int) = 1 ∧ GoodN W L k d) ∨ ((0 : Int) = 0 ∧ ¬ GoodN W L k d)) ∧ FrL M0 M SCL) := fun M hF hn => ⟨Or.inr ⟨rfl, hn⟩, hF⟩
  refine And.intro rfl (And.intro ⟨rfl, by omega, by omega⟩ ?_)
  conv => whnf
  rw [Int.toNat_natCast, n61]
  refine And.intro rfl ⟨(d.1, 33, (W.2 d.1).toNat, P), ⟨rfl, by omega, by omega, by omega, wP.1⟩, ?_⟩
  rintro M1 ⟨hP1, hF1⟩
  have g1 : FrL M0 M1 SCL := hF1.L (by decide)
  have m62 : M1 62 k = (pE W d.1 : Int) := by rw [hF1.1 62 (by decide) (by decide), n62, ewp]
  have wQ1 : WN M1 60 (pE W d.1) (W.2 (pE W d.1)).toNat w := by
    obtain ⟨a1, a2, a3⟩ := wQ.1
    exact ⟨by rw [hF1.1 60 (by decide) (by decide)]; exact a1, a2, fun i hi => by rw [hF1.1 60 (by decide) (by decide)]; exact a3 i hi⟩
  refine And.intro rfl (And.intro ⟨rfl, by omega, by omega⟩ ?_)
  conv => whnf
  rw [Int.toNat_natCast, m62]
  refine And.intro rfl ⟨(pE W d.1, 34, (W.2 (pE W d.1)).toNat, w), ⟨rfl, by omega, by omega, by omega, wQ1⟩, ?_⟩
  rintro M2 ⟨hw2, hF2⟩
  have g2 : FrL M0 M2 SCL := g1.tr (hF2.L (by decide))
  have hP2 := hF2.keep (by omega) hP1 (by omega)
  refine And.intro rfl ⟨(34, 33, w, P), ⟨rfl, by omega, by omega, hw2, by omega, hP2, by omega⟩, ?_⟩
  rintro x M2 ⟨rfl, rfl⟩
  have cc := cm3_cases w P
  by_cases cw : w < P
  rotate_left
  · refine And.intro ⟨⟨by omega, by omega⟩, ⟨by omega, by omega⟩⟩ (And.intro (fun c1 => absurd c1 (by omega)) (fun _ => ?_))
    exact And.intro (Or.inl rfl) (Or.inl (fail M2 g2 (fun z => cw (eG.mp z).1)))
  refine And.intro ⟨⟨by omega, by omega⟩, ⟨by omega, by omega⟩⟩ (And.intro (fun _ => ?_) (fun c2 => absurd c2 (by omega)))
  have P2 : 2 ≤ P := by
    have := wQ.2.2.2.2
    omega
  have lf : ∀ (M : Mem) (c : ND), FrL M0 M SCL → NdOk W c → WN M 60 c.1 (W.2 c.1).toNat (nvW W c.1) ∧ (W.2 c.1).toNat ≤ 64 ∧ c.1 + (W.2 c.1).toNat < 400 ∧ nd (nvW W c.1) ≤ 64 := by
    intro M c hF hc
    have b := wn_of hW (o1_b hc.1).1
    obtain ⟨a1, a2, a3⟩ := b.1
    exact ⟨⟨by rw [hF.1 60 (by decide) (by decide)]; exact a1, a2, fun i hi => by rw [hF.1 60 (by decide) (by decide)]; exact a3 i hi⟩, by omega, by omega, by omega⟩
  have second : ∀ (r j : Nat) (M : Mem) (o3 : Option AV), j + r = L.length → k < j → ((w < P ∧ (IncP W P 0 (chs L k) ∧ prF W (chs L k) = P - 1) ∧ w ^ (P - 1) % P = 1 ∧ ∀ c ∈ chs L k, w ^ ((P - 1) / nvW W c.1) % P ≠ 1) ↔ ∀ c ∈ (L.drop j).filter (fun d => decide (d.2.1 = (k : Int))), w ^ ((P - 1) / nvW W c.1) % P ≠ 1) → MH M 33 P → MH M 34 w → MH M 28 (P - 1) → FrL M0 M SCL → aw 243 [some (.inr (.inr 50)), some (.inl (k : Int)), some (.inl (j : Int)), o3] [] M := by
    intro r
    induction r with
    | zero =>
      intro j M o3 hj hkj hI hP hw hE hF
      have h19 : M 50 19 = (L.length : Int) := by rw [hF.1 50 (by decide) (by decide)]; exact hN.1
      refine run 60 [243] _ _ _ _ ?_
      refine And.intro rfl ?_
      refine And.intro ⟨⟨by omega, by omega⟩, ⟨by omega, by omega⟩⟩ (And.intro (fun _ => ?_) (fun c2 => absurd c2 (by omega)))
      refine And.intro (Or.inr rfl) (Or.inl ⟨Or.inl ⟨rfl, eG.mpr (hI.mpr ?_)⟩, hF⟩)
      rw [List.drop_of_length_le (by omega)]
      intro c hc
      exact absurd hc (List.not_mem_nil)
    | succ r ih =>
      intro j M o3 hj hkj hI hP hw hE hF
      have h19 : M 50 19 = (L.length : Int) := by rw [hF.1 50 (by decide) (by decide)]; exact hN.1
      obtain ⟨c, hc1, hc2, hc3⟩ := drop_get (L := L) (j := j) (by omega)
      obtain ⟨c61, c62, c63, c64, c65, c66⟩ := hN.2 j c hc1
      have m63 : M 63 j = c.2.1 := by rw [hF.1 63 (by decide) (by decide)]; exact c63
      have m61 : M 61 j = (c.1 : Int) := by rw [hF.1 61 (by decide) (by decide)]; exact c61
      rw [chs_st hc2] at hI
      have hcO := hOk c hc3
      refine run 60 [243] _ _ _ _ ?_
      refine And.intro rfl ?_
      refine And.intro ⟨⟨by omega, by omega⟩, ⟨by omega, by omega⟩⟩ (And.intro (fun c1 => absurd c1 (by omega)) (fun _ => ?_))
      refine And.intro rfl (And.intro ⟨rfl, by omega, by omega⟩ ?_)
      conv => whnf
      rw [Int.toNat_natCast, m63]
      by_cases cp : c.2.1 = (k : Int)
      rotate_left
      · rw [if_neg cp] at hI
        refine And.intro ⟨⟨by omega, by omega⟩, ⟨by omega, by omega⟩⟩ (And.intro (fun c1 => absurd c1 (by omega)) (fun _ => ?_))
        refine And.intro ?_ trivial
        exact ih (j + 1) M o3 (by omega) (by omega) hI hP hw hE hF
      rw [if_pos cp] at hI
      refine And.intro ⟨⟨by omega, by omega⟩, ⟨by omega, by omega⟩⟩ (And.intro (fun _ => ?_) (fun c2 => absurd c2 (by omega)))
      obtain ⟨f1, f2, f3, f4⟩ := lf M c hF hcO
      have hq1 := hpos c hc3
      refine And.intro rfl (And.intro ⟨rfl, by omega, by omega⟩ ?_)
      conv => whnf
      rw [Int.toNat_natCast, m61]
      refine And.intro rfl ⟨(c.1, 25, (W.2 c.1).toNat, nvW W c.1), ⟨rfl, by omega, f2, f3, f1⟩, ?_⟩
      rintro M3 ⟨hB3, hF3⟩
      obtain ⟨B, eB'⟩ : ∃ B, B = nvW W c.1 := ⟨_, rfl⟩
      have eB := eB'.symm
      rw [eB] at hB3 f4 hq1
      have nE : nd (P - 1) ≤ 64 := Nat.le_trans (nd_mono (Nat.sub_le _ _)) w3
      have hE3 := hF3.keep (by omega) hE (by omega)
      have hP3 := hF3.keep (by omega) hP (by omega)
      have hw3 := hF3.keep (by omega) hw (by omega)
      refine And.intro rfl ⟨(28, 25, 26, 32, P - 1, B), ⟨rfl, by omega, by omega, by omega, by omega, by omega, by omega, by omega, by omega, by omega, hE3, by omega, hB3, by omega, by omega⟩, ?_⟩
      rintro M4 ⟨hC4, _, hF4⟩
      have hE4 := hF4.keep (by omega) (by omega) hE3 (by omega)
      have hP4 := hF4.keep (by omega) (by omega) hP3 (by omega)
      have hw4 := hF4.keep (by omega) (by omega) hw3 (by omega)
      have nC : nd ((P - 1) / B) ≤ 64 := Nat.le_trans (nd_mono (Nat.div_le_self _ _)) nE
      refine And.intro rfl ⟨(34, 26, 33, 29, w, (P - 1) / B, P), ⟨rfl, by omega, by omega, by omega, by omega, by decide, by decide, by decide, by decide, hw4, by omega, hC4, by omega, hP4, by omega, by omega⟩, ?_⟩
      rintro M5 ⟨hR5, hF5⟩
      have nR : nd (w ^ ((P - 1) / B) % P) ≤ nd P := nd_md (by omega)
      have g5 : FrL M0 M5 SCL := ((hF.tr (hF3.L (by decide))).tr (hF4.L (by decide) (by decide))).tr (hF5.sub (by decide))
      refine And.intro rfl ⟨(29, w ^ ((P - 1) / B) % P), ⟨rfl, by omega, hR5, by omega⟩, ?_⟩
      rintro x M5 ⟨rfl, rfl⟩
      by_cases c1 : w ^ ((P - 1) / B) % P = 1
      · rw [if_pos c1]
        refine And.intro ⟨⟨by omega, by omega⟩, ⟨by omega, by omega⟩⟩ (And.intro (fun c1 => absurd c1 (by omega)) (fun _ => ?_))
        refine And.intro (Or.inl rfl) (Or.inl (fail M5 g5 (fun z => ?_)))
        exact hI.mp (eG.mp z) c List.mem_cons_self (by rw [eB]; exact c1)
      · rw [if_neg c1]
        refine And.intro ⟨⟨by omega, by omega⟩, ⟨by omega, by omega⟩⟩ (And.intro (fun _ => ?_) (fun c2 => absurd c2 (by omega)))
        refine And.intro ?_ trivial
        have hE5 := hF5.keep (by decide) hE4 (by omega)
        have hP5 := hF5.keep (by decide) hP4 (by omega)
        have hw5 := hF5.keep (by decide) hw4 (by omega)
        refine ih (j + 1) M5 o3 (by omega) (by omega) ?_ hP5 hw5 hE5 g5
        rw [hI]
        constructor
        · intro z x hx
          exact z x (List.mem_cons_of_mem _ hx)
        · intro z x hx
          rcases List.mem_cons.mp hx with e | e
          · rw [e, eB]
            exact c1
          · exact z x e
  have mid : ∀ (M : Mem) (C : Nat) (o2 o3 : Option AV), ((IncP W P 0 (chs L k) ∧ prF W (chs L k) = P - 1) ↔ C = P - 1) → nd C ≤ 64 → MH M 26 C → MH M 33 P → MH M 34 w → FrL M0 M SCL → aw 186 [some (.inr (.inr 50)), some (.inl (k : Int)), some (.inl (L.length : Int)), o3] [] M := by
    intro M C o2 o3 hI nC hC hP hw hF
    refine run 90 [243] _ _ _ _ ?_
    refine And.intro rfl ⟨(24, 1), ⟨rfl, by omega, by omega⟩, ?_⟩
    rintro M3 ⟨hA3, hF3⟩
    have hC3 := hF3.keep (by omega) hC (by omega)
    have hP3 := hF3.keep (by omega) hP (by omega)
    have hw3 := hF3.keep (by omega) hw (by omega)
    refine And.intro rfl ⟨(33, 24, 28, P, 1), ⟨rfl, by omega, by omega, by omega, by omega, by omega, hP3, by omega, hA3, by omega⟩, ?_⟩
    rintro M4 ⟨hE4, hF4⟩
    have nE : nd (P - 1) ≤ 64 := Nat.le_trans (nd_mono (Nat.sub_le _ _)) w3
    have hC4 := hF4.keep (by omega) hC3 (by omega)
    have hP4 := hF4.keep (by omega) hP3 (by omega)
    have hw4 := hF4.keep (by omega) hw3 (by omega)
    have g4 : FrL M0 M4 SCL := (hF.tr (hF3.L (by decide))).tr (hF4.L (by decide))
    refine And.intro rfl ⟨(26, 28, C, P - 1), ⟨rfl, by omega, by omega, hC4, by omega, hE4, by omega⟩, ?_⟩
    rintro x M4 ⟨rfl, rfl⟩
    have c3 := cm3_cases C (P - 1)
    by_cases cc1 : C = P - 1
    rotate_left
    · refine And.intro ⟨⟨by omega, by omega⟩, ⟨by omega, by omega⟩⟩ (And.intro (fun c1 => absurd c1 (by omega)) (fun _ => ?_))
      exact And.intro (Or.inl rfl) (Or.inl (fail M4 g4 (fun z => cc1 (hI.mp (eG.mp z).2.1))))
    refine And.intro ⟨⟨by omega, by omega⟩, ⟨by omega, by omega⟩⟩ (And.intro (fun _ => ?_) (fun c2 => absurd c2 (by omega)))
    refine And.intro rfl ⟨(34, 28, 33, 29, w, P - 1, P), ⟨rfl, by omega, by omega, by omega, by omega, by decide, by decide, by decide, by decide, hw4, by omega, hE4, by omega, hP4, by omega, by omega⟩, ?_⟩
    rintro M5 ⟨hR5, hF5⟩
    have nR : nd (w ^ (P - 1) % P) ≤ nd P := nd_md (by omega)
    have g5 : FrL M0 M5 SCL := g4.tr (hF5.sub (by decide))
    refine And.intro rfl ⟨(29, w ^ (P - 1) % P), ⟨rfl, by omega, hR5, by omega⟩, ?_⟩
    rintro x M5 ⟨rfl, rfl⟩
    by_cases c1 : w ^ (P - 1) % P = 1
    rotate_left
    · rw [if_neg c1]
      refine And.intro ⟨⟨by omega, by omega⟩, ⟨by omega, by omega⟩⟩ (And.intro (fun c1 => absurd c1 (by omega)) (fun _ => ?_))
      exact And.intro (Or.inl rfl) (Or.inl (fail M5 g5 (fun z => c1 (eG.mp z).2.2.1)))
    rw [if_pos c1]
    refine And.intro ⟨⟨by omega, by omega⟩, ⟨by omega, by omega⟩⟩ (And.intro (fun _ => ?_) (fun c2 => absurd c2 (by omega)))
    refine And.intro ?_ trivial
    have hE5 := hF5.keep (by decide) hE4 (by omega)
    have hP5 := hF5.keep (by decide) hP4 (by omega)
    have hw5 := hF5.keep (by decide) hw4 (by omega)
    refine second (L.length - (k + 1)) (k + 1) M5 o3 (by omega) (by omega) ?_ hP5 hw5 hE5 g5
    exact ⟨fun z => z.2.2.2, fun z => ⟨cw, hI.mpr cc1, c1, z⟩⟩
  have first : ∀ (r j C D : Nat) (M : Mem) (o3 : Option AV), j + r = L.length → k < j → ((IncP W P 0 (chs L k) ∧ prF W (chs L k) = P - 1) ↔ (IncP W P D ((L.drop j).filter (fun d => decide (d.2.1 = (k : Int)))) ∧ C * prF W ((L.drop j).filter (fun d => decide (d.2.1 = (k : Int)))) = P - 1)) → C < P → D < P → MH M 26 C → MH M 27 D → MH M 33 P → MH M 34 w → FrL M0 M SCL → aw 66 [some (.inr (.inr 50)), some (.inl (k : Int)), some (.inl (j : Int)), o3] [] M := by
    intro r
    induction r with
    | zero =>
      intro j C D M o3 hj hkj hI hC0 hD0 hC hD hP hw hF
      obtain rfl : j = L.length := by omega
      have h19 : M 50 19 = (L.length : Int) := by rw [hF.1 50 (by decide) (by decide)]; exact hN.1
      refine run 60 [66, 186] _ _ _ _ ?_
      refine And.intro rfl ?_
      refine And.intro ⟨⟨by omega, by omega⟩, ⟨by omega, by omega⟩⟩ (And.intro (fun _ => ?_) (fun c2 => absurd c2 (by omega)))
      refine And.intro (mid M C o3 o3 ?_ (Nat.le_trans (nd_mono (Nat.le_of_lt hC0)) w3) hC hP hw hF) trivial
      rw [hI, List.drop_of_length_le (Nat.le_refl _)]
      show (IncP W P D [] ∧ C * prF W [] = P - 1) ↔ _
      rw [prF, Nat.mul_one]
      exact ⟨fun z => z.2, fun z => ⟨trivial, z⟩⟩
    | succ r ih =>
      intro j C D M o3 hj hkj hI hC0 hD0 hC hD hP hw hF
      have h19 : M 50 19 = (L.length : Int) := by rw [hF.1 50 (by decide) (by decide)]; exact hN.1
      obtain ⟨c, hc1, hc2, hc3⟩ := drop_get (L := L) (j := j) (by omega)
      obtain ⟨c61, c62, c63, c64, c65, c66⟩ := hN.2 j c hc1
      have m63 : M 63 j = c.2.1 := by rw [hF.1 63 (by decide) (by decide)]; exact c63
      have m61 : M 61 j = (c.1 : Int) := by rw [hF.1 61 (by decide) (by decide)]; exact c61
      rw [chs_st hc2] at hI
      have hcO := hOk c hc3
      have hRp : 1 ≤ prF W ((L.drop (j + 1)).filter (fun d => decide (d.2.1 = (k : Int)))) := prF_pos (fun x hx => hpos x (List.mem_of_mem_drop (List.mem_filter.mp hx).1))
      refine run 90 [66, 133] _ _ _ _ ?_
      refine And.intro rfl ?_
      refine And.intro ⟨⟨by omega, by omega⟩, ⟨by omega, by omega⟩⟩ (And.intro (fun c1 => absurd c1 (by omega)) (fun _ => ?_))
      refine And.intro rfl (And.intro ⟨rfl, by omega, by omega⟩ ?_)
      conv => whnf
      rw [Int.toNat_natCast, m63]
      by_cases cp : c.2.1 = (k : Int)
      rotate_left
      · rw [if_neg cp] at hI
        refine And.intro ⟨⟨by omega, by omega⟩, ⟨by omega, by omega⟩⟩ (And.intro (fun c1 => absurd c1 (by omega)) (fun _ => ?_))
        refine And.intro ?_ trivial
        exact ih (j + 1) C D M o3 (by omega) (by omega) hI hC0 hD0 hC hD hP hw hF
      rw [if_pos cp] at hI
      refine And.intro ⟨⟨by omega, by omega⟩, ⟨by omega, by omega⟩⟩ (And.intro (fun _ => ?_) (fun c2 => absurd c2 (by omega)))
      obtain ⟨f1, f2, f3, f4⟩ := lf M c hF hcO
      have hq1 := hpos c hc3
      obtain ⟨B, eB'⟩ : ∃ B, B = nvW W c.1 := ⟨_, rfl⟩
      obtain ⟨T, eT⟩ : ∃ T : Nat, c.2.2.1 = (T : Int) := ⟨c.2.2.1.toNat, by have := hcO.2.2.1; omega⟩
      have T960 := hcO.2.2.2
      have T1 := hcO.2.2.1
      have hI2 : (IncP W P 0 (chs L k) ∧ prF W (chs L k) = P - 1) ↔ ((D < B ∧ B < P ∧ IncP W P B ((L.drop (j + 1)).filter (fun d => decide (d.2.1 = (k : Int))))) ∧ C * (B ^ T * prF W ((L.drop (j + 1)).filter (fun d => decide (d.2.1 = (k : Int))))) = P - 1) := by
        rw [hI, IncP, prF, ← eB', eT, Int.toNat_natCast]
      clear hI
      rw [← eB'] at f1 f4 hq1
      have nC : nd C ≤ 64 := Nat.le_trans (nd_mono (Nat.le_of_lt hC0)) w3
      have nD : nd D ≤ 64 := Nat.le_trans (nd_mono (Nat.le_of_lt hD0)) w3
      refine And.intro rfl (And.intro ⟨rfl, by omega, by omega⟩ ?_)
      conv => whnf
      rw [Int.toNat_natCast, m61]
      refine And.intro rfl ⟨(c.1, 25, (W.2 c.1).toNat, B), ⟨rfl, by omega, f2, f3, f1⟩, ?_⟩
      rintro M3 ⟨hB3, hF3⟩
      have hC3 := hF3.keep (by omega) hC (by omega)
      have hD3 := hF3.keep (by omega) hD (by omega)
      have hP3 := hF3.keep (by omega) hP (by omega)
      have hw3 := hF3.keep (by omega) hw (by omega)
      have g3 : FrL M0 M3 SCL := hF.tr (hF3.L (by decide))
      refine And.intro rfl ⟨(25, 33, B, P), ⟨rfl, by omega, by omega, hB3, by omega, hP3, by omega⟩, ?_⟩
      rintro x M3 ⟨rfl, rfl⟩
      have d1 := cm3_cases B P
      by_cases q1 : B < P
      rotate_left
      · refine And.intro ⟨⟨by omega, by omega⟩, ⟨by omega, by omega⟩⟩ (And.intro (fun _ => ?_) (fun c2 => absurd c2 (by omega)))
        exact And.intro (Or.inl rfl) (Or.inl (fail M3 g3 (fun z => q1 (hI2.mp (eG.mp z).2.1).1.2.1)))
      refine And.intro ⟨⟨by omega, by omega⟩, ⟨by omega, by omega⟩⟩ (And.intro (fun c1 => absurd c1 (by omega)) (fun _ => ?_))
      refine And.intro rfl ⟨(25, 27, B, D), ⟨rfl, by omega, by omega, hB3, by omega, hD3, by omega⟩, ?_⟩
      rintro x M3 ⟨rfl, rfl⟩
      have d2 := cm3_cases B D
      by_cases q2 : D < B
      rotate_left
      · refine And.intro ⟨⟨by omega, by omega⟩, ⟨by omega, by omega⟩⟩ (And.intro (fun c1 => absurd c1 (by omega)) (fun _ => ?_))
        exact And.intro (Or.inl rfl) (Or.inl (fail M3 g3 (fun z => q2 (hI2.mp (eG.mp z).2.1).1.1)))
      refine And.intro ⟨⟨by omega, by omega⟩, ⟨by omega, by omega⟩⟩ (And.intro (fun _ => ?_) (fun c2 => absurd c2 (by omega)))
      refine And.intro rfl ⟨(25, 27, B), ⟨rfl, by omega, by omega, hB3, by omega⟩, ?_⟩
      rintro M4 ⟨hD4, hF4⟩
      have hB4 := hF4.keep (by omega) hB3 (by omega)
      have hC4 := hF4.keep (by omega) hC3 (by omega)
      have hP4 := hF4.keep (by omega) hP3 (by omega)
      have hw4 := hF4.keep (by omega) hw3 (by omega)
      have g4 : FrL M0 M4 SCL := g3.tr (hF4.L (by decide))
      have inner : ∀ (s t : Nat) (M : Mem), t + s = T → C * B ^ t < P → MH M 26 (C * B ^ t) → MH M 25 B → MH M 27 B → MH M 33 P → MH M 34 w → FrL M0 M SCL → aw 133 [some (.inr (.inr 50)), some (.inl (k : Int)), some (.inl (j : Int)), some (.inl (t : Int))] [] M := by
        intro s
        induction s with
        | zero =>
          intro t M ht hlt h26 h25 h27 h33 h34 hF
          obtain rfl : t = T := by omega
          have m64 : M 64 j = (t : Int) := by rw [hF.1 64 (by decide) (by decide), c64, eT]
          refine run 60 [66, 133] _ _ _ _ ?_
          refine And.intro rfl (And.intro ⟨rfl, by omega, by omega⟩ ?_)
          conv => whnf
          rw [Int.toNat_natCast, m64]
          refine And.intro ⟨⟨by omega, by omega⟩, ⟨by omega, by omega⟩⟩ (And.intro (fun _ => ?_) (fun c2 => absurd c2 (by omega)))
          refine And.intro ?_ trivial
          refine ih (j + 1) (C * B ^ t) B M _ (by omega) (by omega) ?_ hlt q1 h26 h27 h33 h34 hF
          rw [hI2, Nat.mul_assoc]
          exact ⟨fun z => ⟨z.1.2.2, z.2⟩, fun z => ⟨⟨q2, q1, z.1⟩, z.2⟩⟩
        | succ s ihs =>
          intro t M ht hlt h26 h25 h27 h33 h34 hF
          have m64 : M 64 j = (T : Int) := by rw [hF.1 64 (by decide) (by decide), c64, eT]
          have nX : nd (C * B ^ t) ≤ 64 := Nat.le_trans (nd_mono (Nat.le_of_lt hlt)) w3
          have nY := nd_pr (C * B ^ t) B
          have eX : C * B ^ t * B = C * B ^ (t + 1) := by rw [Nat.pow_succ, Nat.mul_assoc]
          rw [eX] at nY
          refine run 60 [66, 133] _ _ _ _ ?_
          refine And.intro rfl (And.intro ⟨rfl, by omega, by omega⟩ ?_)
          conv => whnf
          rw [Int.toNat_natCast, m64]
          refine And.intro ⟨⟨by omega, by omega⟩, ⟨by omega, by omega⟩⟩ (And.intro (fun c1 => absurd c1 (by omega)) (fun _ => ?_))
          refine And.intro rfl ⟨(26, 25, 24, C * B ^ t, B), ⟨rfl, by omega, by omega, by omega, by omega, by omega, h26, h25, by omega⟩, ?_⟩
          rintro M5 ⟨hA5, hF5⟩
          rw [eX] at hA5
          have k25 := hF5.keep (by omega) h25 (by omega)
          have k27 := hF5.keep (by omega) h27 (by omega)
          have k33 := hF5.keep (by omega) h33 (by omega)
          have k34 := hF5.keep (by omega) h34 (by omega)
          have g5 : FrL M0 M5 SCL := hF.tr (hF5.L (by decide))
          refine And.intro rfl ⟨(24, 33, C * B ^ (t + 1), P), ⟨rfl, by omega, by omega, hA5, by omega, k33, by omega⟩, ?_⟩
          rintro x M5 ⟨rfl, rfl⟩
          have d3 := cm3_cases (C * B ^ (t + 1)) P
          by_cases q3 : C * B ^ (t + 1) < P
          rotate_left
          · refine And.intro ⟨⟨by omega, by omega⟩, ⟨by omega, by omega⟩⟩ (And.intro (fun c1 => absurd c1 (by omega)) (fun _ => ?_))
            refine And.intro (Or.inl rfl) (Or.inl (fail M5 g5 (fun z => ?_)))
            have h9 := (hI2.mp (eG.mp z).2.1).2
            have h10 : C * B ^ (t + 1) ≤ C * (B ^ T * prF W ((L.drop (j + 1)).filter (fun d => decide (d.2.1 = (k : Int))))) := by
              refine Nat.mul_le_mul_left _ ?_
              refine Nat.le_trans (Nat.pow_le_pow_right hq1 (by omega : t + 1 ≤ T)) ?_
              exact Nat.le_mul_of_pos_right _ hRp
            omega
          refine And.intro ⟨⟨by omega, by omega⟩, ⟨by omega, by omega⟩⟩ (And.intro (fun _ => ?_) (fun c2 => absurd c2 (by omega)))
          refine And.intro rfl ⟨(24, 26, C * B ^ (t + 1)), ⟨rfl, by omega, by omega, hA5, by omega⟩, ?_⟩
          rintro M6 ⟨h6, hF6⟩
          refine And.intro ?_ trivial
          exact ihs (t + 1) M6 (by omega) q3 h6 (hF6.keep (by omega) k25 (by omega)) (hF6.keep (by omega) k27 (by omega)) (hF6.keep (by omega) k33 (by omega)) (hF6.keep (by omega) k34 (by omega)) (g5.tr (hF6.L (by decide)))
      refine And.intro ?_ trivial
      exact inner T 0 M4 (by omega) (by rw [Nat.pow_zero, Nat.mul_one]; exact hC0) (by rw [Nat.pow_zero, Nat.mul_one]; exact hC4) hB4 hD4 hP4 hw4 g4
  refine And.intro rfl ⟨(26, 1), ⟨rfl, by omega, by omega⟩, ?_⟩
  rintro M3 ⟨hC3, hF3⟩
  refine And.intro rfl (And.intro ⟨rfl, by omega, by omega⟩ (And.intro ?_ trivial))
  have hP3 := hF3.keep (by omega) hP2 (by omega)
  have hw3 := hF3.keep (by omega) hw2 (by omega)
  have hF4 : FrM M3 (up2 M3 52 27 0) 27 := FrM.len
  have n1 : nd 1 ≤ 420 := by decide
  refine first (L.length - (k + 1)) (k + 1) 1 0 (up2 M3 52 27 0) _ (by omega) (by omega) ?_ (by omega) (by omega) (hF4.keep (by omega) hC3 n1) ⟨?_, fun i hi => ?_⟩ (hF4.keep (by omega) hP3 (by omega)) (hF4.keep (by omega) hw3 (by omega)) ((g2.tr (hF3.L (by decide))).tr (hF4.L (by decide)))
  · rw [Nat.one_mul]
    exact Iff.rfl
  · rw [up2_s]
    rfl
  · rw [nd_0] at hi
    omega
theorem imX8_isGood {l : Launch} {Z : ZT} (hZ : ZOk Z) : Impl l Z yX8_isGood cX8_isGood 4 (some .boolean) 5 c_isGood := mkImpl (rt := 2) (CL := [(184, some 8, c_isTwo), (191, some 8, c_load), (91, some 8, c_compared), (94, some 8, c_small), (101, some 8, c_copy), (108, some 8, c_product), (156, some 8, c_difference), (159, some 8, c_power), (165, some 8, c_isOne), (97, some 8, c_divide)]) hZ.1 hZ.2.1 (by decide +kernel) kX8_isGood fwX8 iwX8 lwX8 trivial (Nat.le_of_ble_eq_true rfl) (List.forall_mem_cons.mpr ⟨gX8_184 hZ (by decide), List.forall_mem_cons.mpr ⟨gX8_191 hZ (by decide), List.forall_mem_cons.mpr ⟨gX8_91 hZ (by decide), List.forall_mem_cons.mpr ⟨gX8_94 hZ (by decide), List.forall_mem_cons.mpr ⟨gX8_101 hZ (by decide), List.forall_mem_cons.mpr ⟨gX8_108 hZ (by decide), List.forall_mem_cons.mpr ⟨gX8_156 hZ (by decide), List.forall_mem_cons.mpr ⟨gX8_159 hZ (by decide), List.forall_mem_cons.mpr ⟨gX8_165 hZ (by decide), List.forall_mem_cons.mpr ⟨gX8_97 hZ (by decide), fun q h => absurd h List.not_mem_nil⟩⟩⟩⟩⟩⟩⟩⟩⟩⟩) ((v_isGood _))
theorem gX8_197 {l : Launch} {Z : ZT} (hZ : ZOk Z) {d : Nat} (hd : 6 ≤ d) : CallI l Z RX8 d (197, some 8, c_isGood) := fun p e s m args below meth c Q cc nL x0 X => callOk_V X (imX8_isGood hZ) (by decide) rfl mlX8_197 iw_yX8_isGood vw_yX8_isGood nw_RX8 cw_yX8_isGood ⟨by decide +kernel, by decide +kernel, by decide +kernel⟩ ⟨hd, by decide⟩
