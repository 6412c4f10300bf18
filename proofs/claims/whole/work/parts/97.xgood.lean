/-! ===== the class: when a node is good ===== -/
def WO (W : WS) : Prop := W.1 ≤ 400 ∧ ∀ i, i < W.1 → 0 ≤ W.2 i ∧ W.2 i ≤ 32767
theorem XW.o {n : Nn} {M : Mem} {W : WS} (h : XW n M W) : WO W := ⟨Nat.le_trans h.2.1 h.2.2.1, fun i hi => (h.2.2.2 i hi).2⟩
theorem WO.wb {W : WS} (h : WO W) : WB (fun o k => if o = 50 then (W.1 : Int) else W.2 k) W := ⟨if_pos rfl, h.1, fun i hi => ⟨if_neg (by decide), h.2 i hi⟩⟩
theorem nv_ok {W : WS} {p : Nat} (h : WO W) (hp : pE W p ≠ 0) : nd (nvW W p) = (W.2 p).toNat ∧ nd (nvW W p) ≤ 64 ∧ 1 ≤ W.2 p ∧ W.2 p ≤ 64 ∧ p + (W.2 p).toNat < W.1 ∧ 1 ≤ nvW W p ∧ pE W p = p + (W.2 p).toNat + 1 ∧ ∀ i, i < (W.2 p).toNat → W.2 (p + 1 + i) = (dg (nvW W p) i : Int) := by
  obtain ⟨⟨a1, a2, a3⟩, b, c, d, e⟩ := wn_of h.wb hp
  have q := pE_b hp
  refine ⟨b, by omega, q.2.2.2.1, q.2.2.2.2.1, d, e, q.2.2.2.2.2.2.2, fun i hi => ?_⟩
  have t : (if (60 : Nat) = 50 then (W.1 : Int) else W.2 (p + 1 + i)) = (dg (nvW W p) i : Int) := a3 i hi
  rw [if_neg (by decide)] at t
  exact t
def c_rdN (n : Nn) : Call := ⟨WS × Nat × Nat, 3, (fun (W, p, r) vs M => vs = [.inr (.inr 43), .inl (p : Int), .inr (.inr r)] ∧ isRw r ∧ pE W p ≠ 0 ∧ XW n M W), .inr (fun (W, p, r) _ M x M' => x = (pE W p : Int) ∧ XR M' r (nvW W p) ∧ FrX M M' r)⟩
theorem XW.fx {n : Nn} {M M' : Mem} {W : WS} {r : Nat} (h : XW n M W) (hF : FrX M M' r) (hr : isRw r) : XW n M' W := h.fr (by rw [hF 43 (by omega) (by omega)]) (hF 44 (by omega) (by omega))
theorem v_rdN (n : Nn) : Ver tX2_readNumber (fdX2, icX2, lcX2, [(76, some 2, c_wordAt n), (47, none, c_min), (79, none, c_max)]) 1 4 n (c_rdN n) := by
  rintro ⟨W, p, r⟩ vs M0 ⟨rfl, hr, hp, hW⟩ aw run
  have hl := hr.ln n
  have w1 := hW.o.1
  obtain ⟨v1, v2, v3, v4, v5, v6, v7, v8⟩ := nv_ok hW.o hp
  obtain ⟨L, eL⟩ : ∃ L : Nat, W.2 p = (L : Int) := ⟨(W.2 p).toNat, by omega⟩
  have eL2 : (W.2 p).toNat = L := by omega
  rw [eL2] at v1 v5 v7 v8
  change aw 0 [some (.inr (.inr 43)), some (.inl (p : Int)), some (.inr (.inr r)), none] [] M0
  refine run 60 [20] _ _ _ _ ?_
  refine And.intro rfl ⟨(W, (p : Int)), ⟨rfl, ⟨by omega, by omega⟩, hW⟩, ?_⟩
  rintro x M0 ⟨rfl, rfl⟩
  rw [wA_n (by omega), eL]
  refine ⟨(64, (L : Int)), ⟨rfl, ⟨by omega, by omega⟩, ⟨by omega, by omega⟩⟩, ?_⟩
  rintro x M0 ⟨rfl, rfl⟩
  refine ⟨(0, min 64 (L : Int)), ⟨rfl, ⟨by omega, by omega⟩, ⟨by omega, by omega⟩⟩, ?_⟩
  rintro x M0 ⟨rfl, rfl⟩
  refine And.intro hr.kd (And.intro ?_ trivial)
  rw [show max 0 (min 64 (L : Int)) = (L : Int) by omega]
  have loop : ∀ (m i : Nat) (M : Mem), i + m = L → M r 1 = (L : Int) → (∀ j, j < i → M (r + 1) j = (dg (nvW W p) j : Int)) → FrX M0 M r → aw 20 [some (.inr (.inr 43)), some (.inl (p : Int)), some (.inr (.inr r)), some (.inl (i : Int))] [] M := by
    intro m
    induction m with
    | zero =>
      intro i M hi h1 hD hF
      refine run 60 [20] _ _ _ _ ?_
      refine And.intro hr.kd ?_
      conv => whnf
      rw [h1]
      refine And.intro ⟨⟨by omega, by omega⟩, ⟨by omega, by omega⟩⟩ (And.intro (fun _ => ?_) (fun c2 => absurd c2 (by omega)))
      refine And.intro hr.kd (Or.inl ⟨?_, ⟨by rw [h1, v1], fun j hj => hD j (by omega)⟩, hF⟩)
      show (p : Int) + 1 + M r 1 = (pE W p : Int)
      rw [h1]
      omega
    | succ m ih =>
      intro i M hi h1 hD hF
      have hW1 := hW.fx hF hr
      have q := v8 i (by omega)
      refine run 60 [20] _ _ _ _ ?_
      refine And.intro hr.kd ?_
      conv => whnf
      rw [h1]
      refine And.intro ⟨⟨by omega, by omega⟩, ⟨by omega, by omega⟩⟩ (And.intro (fun c1 => absurd c1 (by omega)) (fun _ => ?_))
      refine And.intro hr.kd ?_
      conv => whnf
      rw [show (p : Int) + 1 + (i : Int) = ((p + 1 + i : Nat) : Int) by omega]
      refine And.intro rfl ⟨(W, ((p + 1 + i : Nat) : Int)), ⟨rfl, ⟨by omega, by omega⟩, hW1⟩, ?_⟩
      rintro x M ⟨rfl, rfl⟩
      rw [wA_n (by omega), q]
      refine And.intro ⟨hr.ka, by omega, by omega⟩ (And.intro ?_ trivial)
      rw [Int.toNat_natCast, show (i : Int) + 1 = ((i + 1 : Nat) : Int) by omega]
      refine ih (i + 1) _ (by omega) (by rw [up2_i (by omega)]; exact h1) (fun j hj => ?_) (hF.tr FrX.put)
      by_cases c : j = i
      · rw [c, up2_s]
      · rw [up2_k c]
        exact hD j (by omega)
  exact loop L 0 _ (by omega) up2_s (fun j hj => by omega) FrX.len
theorem imX2_readNumber {l : Launch} {Z : ZT} (hZ : ZOk Z) : Impl l Z yX2_readNumber cX2_readNumber 4 (some .int) 2 (c_rdN (zN Z)) := mkImpl (rt := 1) (CL := [(76, some 2, (c_wordAt (zN Z))), (47, none, c_min), (79, none, c_max)]) hZ.1 hZ.2.1 (by decide +kernel) kX2_readNumber fwX2 iwX2 lwX2 trivial (Nat.le_of_ble_eq_true rfl) (List.forall_mem_cons.mpr ⟨gX2_76 hZ (by decide), List.forall_mem_cons.mpr ⟨gX2_47 hZ (by decide), List.forall_mem_cons.mpr ⟨gX2_79 hZ (by decide), fun q h => absurd h List.not_mem_nil⟩⟩⟩) ((v_rdN (zN Z)))
theorem gX2_88 {l : Launch} {Z : ZT} (hZ : ZOk Z) {d : Nat} (hd : 3 ≤ d) : CallI l Z RX2 d (88, some 2, (c_rdN (zN Z))) := fun p e s m args below meth c Q cc nL x0 X => callOk_V X (imX2_readNumber hZ) (by decide) rfl mlX2_88 iw_yX2_readNumber vw_yX2_readNumber nw_RX2 cw_yX2_readNumber ⟨by decide +kernel, by decide +kernel, show (parseMethodDescriptor yX2_readNumber.desc).map (fun d => d.parameters.length) = some 2 by decide +kernel⟩ ⟨hd, by decide⟩
/-- rows 35 and 37 alone have changed -/
def FrU (M M' : Mem) : Prop := ∀ o, (o < 35 ∨ 38 < o) → M' o = M o
def c_mulT : Call := ⟨Nat × Nat × Nat × Nat, 2, (fun (t, v, u, P) vs M => vs = [.inr (.inr 43), .inl (t : Int)] ∧ 1 ≤ t ∧ t ≤ 960 ∧ XR M 35 v ∧ nd v ≤ 64 ∧ XR M 31 u ∧ nd u ≤ 64 ∧ 1 ≤ u ∧ XR M 27 P ∧ nd P ≤ 64), .inr (fun (t, v, u, P) _ M x M' => ((x = 1 ∧ nd (v * u ^ t) ≤ nd P ∧ XR M' 35 (v * u ^ t)) ∨ (x = 0 ∧ nd P < nd (v * u ^ t))) ∧ FrU M M')⟩
theorem v_mulT (n : Nn) : Ver tX2_multiplyTotal (fdX2, icX2, lcX2, [(123, none, c_productX), (115, some 5, c_copyX)]) 2 3 n c_mulT := by
  rintro ⟨t, v, u, P⟩ vs M0 ⟨rfl, ht1, ht2, hv, nv, hu, nu, u1, hP, nP⟩ aw run
  have loop : ∀ (m k : Nat) (M : Mem), k + m = t → XR M 35 (v * u ^ k) → nd (v * u ^ k) ≤ 64 → (k ≠ 0 → nd (v * u ^ k) ≤ nd P) → FrU M0 M → aw 2 [some (.inr (.inr 43)), some (.inl (t : Int)), some (.inl (k : Int))] [] M := by
    intro m
    induction m with
    | zero =>
      intro k M hk hX hn hn2 hF
      obtain rfl : k = t := by omega
      refine run 60 [2] _ _ _ _ ?_
      refine And.intro ⟨⟨by omega, by omega⟩, ⟨by omega, by omega⟩⟩ (And.intro (fun _ => ?_) (fun c2 => absurd c2 (by omega)))
      exact And.intro (Or.inr rfl) (Or.inl ⟨Or.inl ⟨rfl, hn2 (by omega), hX⟩, hF⟩)
    | succ m ih =>
      intro k M hk hX hn hn2 hF
      have hu1 : XR M 31 u := by
        unfold XR
        rw [hF 31 (by omega), hF (31 + 1) (by omega)]
        exact hu
      have hP1 : XR M 27 P := by
        unfold XR
        rw [hF 27 (by omega), hF (27 + 1) (by omega)]
        exact hP
      have np := nd_pr (v * u ^ k) u
      have ep : v * u ^ k * u = v * u ^ (k + 1) := by rw [Nat.pow_succ, Nat.mul_assoc]
      refine run 60 [2] _ _ _ _ ?_
      refine And.intro ⟨⟨by omega, by omega⟩, ⟨by omega, by omega⟩⟩ (And.intro (fun c1 => absurd c1 (by omega)) (fun _ => ?_))
      refine And.intro rfl (And.intro rfl (And.intro rfl ⟨(37, 35, 31, v * u ^ k, u), ⟨rfl, by decide, by decide, by decide, by decide, by decide, hX, hu1, by omega⟩, ?_⟩))
      rintro M1 ⟨hX1, hF1⟩
      rw [ep] at hX1 np
      refine And.intro rfl (And.intro rfl (And.intro rfl ⟨(35, 37, v * u ^ (k + 1)), ⟨rfl, by decide, by decide, by decide, hX1, by omega⟩, ?_⟩))
      rintro M2 ⟨hX2, hF2⟩
      have hP2 : M2 27 1 = (nd P : Int) := by
        rw [hF2 27 (by decide) (by decide), hF1 27 (by decide) (by decide)]
        exact hP1.1
      have h35 : M2 35 1 = (nd (v * u ^ (k + 1)) : Int) := hX2.1
      have F2 : FrU M0 M2 := fun o a => by rw [hF2 o (by omega) (by omega), hF1 o (by omega) (by omega)]; exact hF o a
      refine And.intro rfl (And.intro rfl (And.intro rfl (And.intro rfl ?_)))
      conv => whnf
      rw [hP2, h35]
      refine And.intro ⟨⟨by omega, by omega⟩, ⟨by omega, by omega⟩⟩ (And.intro (fun c1 => ?_) (fun c2 => ?_))
      · refine And.intro ?_ trivial
        rw [show (k : Int) + 1 = ((k + 1 : Nat) : Int) by omega]
        exact ih (k + 1) M2 (by omega) hX2 (by omega) (fun _ => by omega) F2
      · refine And.intro (Or.inl rfl) (Or.inl ⟨Or.inr ⟨rfl, ?_⟩, F2⟩)
        have h1 : v * u ^ (k + 1) ≤ v * u ^ t := Nat.mul_le_mul_left _ (Nat.pow_le_pow_right u1 (by omega))
        have := nd_mono h1
        omega
  change aw 0 [some (.inr (.inr 43)), some (.inl (t : Int)), none] [] M0
  refine run 60 [2] _ _ _ _ ?_
  refine And.intro ?_ trivial
  have e0 : v * u ^ 0 = v := by rw [Nat.pow_zero, Nat.mul_one]
  exact loop t 0 M0 (by omega) (by rw [e0]; exact hv) (by rw [e0]; exact nv) (fun z => absurd rfl z) (fun _ _ => rfl)
theorem imX2_multiplyTotal {l : Launch} {Z : ZT} (hZ : ZOk Z) : Impl l Z yX2_multiplyTotal cX2_multiplyTotal 3 (some .boolean) 3 c_mulT := mkImpl (rt := 2) (CL := [(123, none, c_productX), (115, some 5, c_copyX)]) hZ.1 hZ.2.1 (by decide +kernel) kX2_multiplyTotal fwX2 iwX2 lwX2 trivial (Nat.le_of_ble_eq_true rfl) (List.forall_mem_cons.mpr ⟨gX2_123 hZ (by decide), List.forall_mem_cons.mpr ⟨gX2_115 hZ (by decide), fun q h => absurd h List.not_mem_nil⟩⟩) ((v_mulT _))
theorem gX2_112 {l : Launch} {Z : ZT} (hZ : ZOk Z) {d : Nat} (hd : 4 ≤ d) : CallI l Z RX2 d (112, some 2, c_mulT) := fun p e s m args below meth c Q cc nL x0 X => callOk_V X (imX2_multiplyTotal hZ) (by decide) rfl mlX2_112 iw_yX2_multiplyTotal vw_yX2_multiplyTotal nw_RX2 cw_yX2_multiplyTotal ⟨by decide +kernel, by decide +kernel, by decide +kernel⟩ ⟨hd, by decide⟩
/-- the certificate's own rows alone have changed -/
def FrQ (M M' : Mem) : Prop := ∀ o, (o < 27 ∨ 38 < o) → M' o = M o
theorem FrQ.tr {M M1 M2 : Mem} (h : FrQ M M1) (h2 : FrQ M1 M2) : FrQ M M2 := fun o a => (h2 o a).trans (h o a)
theorem FrX.Q {M M' : Mem} {r : Nat} (h : FrX M M' r) (h1 : 27 ≤ r) (h2 : r ≤ 37) : FrQ M M' := fun o a => h o (by omega) (by omega)
theorem FrU.Q {M M' : Mem} (h : FrU M M') : FrQ M M' := fun o a => h o (by omega)
theorem FrQ.w {n : Nn} {M M' : Mem} {W : WS} (h : FrQ M M') (hW : XW n M W) : XW n M' W := hW.fr (by rw [h 43 (by omega)]) (h 44 (by omega))
theorem FrU.keep {M M' : Mem} {s v : Nat} (h : FrU M M') (hs : isRw s) (h2 : s < 35) (hv : XR M s v) : XR M' s v := by
  unfold XR at *
  rw [h s (by omega), h (s + 1) (by omega)]
  exact hv
/-- what is known of a node that isn't 2's, and of its factors -/
def NdC (W : WS) (M : Mem) (d : ND) (ch : List ND) : Prop := NdOk W d ∧ ¬ isT W d.1 ∧ Chn W ch (o1 W d.1).2.2 ∧ ch.length = (o1 W d.1).1 ∧ ∀ c ∈ ch, NdOk W c ∧ M 46 c.1 = (En W c.1 : Int)
theorem NdC.o {W : WS} {M : Mem} {d : ND} {ch : List ND} (h : NdC W M d ch) : pE W d.1 ≠ 0 ∧ pE W (pE W d.1) ≠ 0 ∧ d.2.2.2.toNat = pE W d.1 ∧ pE W (pE W d.1) < W.1 ∧ 1 ≤ W.2 (pE W (pE W d.1)) ∧ W.2 (pE W (pE W d.1)) ≤ 20 ∧ (ch.length : Int) = W.2 (pE W (pE W d.1)) ∧ (o1 W d.1).2.2 = pE W (pE W d.1) + 1 := by
  obtain ⟨h1, h2, h3, h4, h5⟩ := h
  have b := o1_b h1.1
  have c1 : pE W d.1 ≠ 0 := b.1
  have hn := h1.1
  have hw := h1.2.1
  by_cases c3 : pE W (pE W d.1) ≠ 0 ∧ pE W (pE W d.1) < W.1 ∧ 1 ≤ W.2 (pE W (pE W d.1)) ∧ W.2 (pE W (pE W d.1)) ≤ 20
  · have e : o1 W d.1 = ((W.2 (pE W (pE W d.1))).toNat, (pE W d.1 : Int), pE W (pE W d.1) + 1) := by
      unfold o1
      rw [if_neg c1, if_neg h2, if_pos c3]
    rw [e] at h4 hw ⊢
    refine ⟨c1, c3.1, ?_, c3.2.1, c3.2.2.1, c3.2.2.2, ?_, rfl⟩
    · rw [hw]
      exact Int.toNat_natCast _
    · rw [h4]
      show (((W.2 (pE W (pE W d.1))).toNat : Nat) : Int) = _
      omega
  · have e : o1 W d.1 = (0, 0, 0) := by
      unfold o1
      rw [if_neg c1, if_neg h2, if_neg c3]
    rw [e] at hn
    exact absurd rfl hn
abbrev FFt (W : WS) (d : ND) (ch : List ND) : Prop := nvW W d.2.2.2.toNat < nvW W d.1 ∧ IncP W (nvW W d.1) 0 ch ∧ prF W ch = nvW W d.1 - 1
abbrev WHd (W : WS) (d : ND) (ch : List ND) : Prop := nvW W d.2.2.2.toNat ^ (nvW W d.1 - 1) % nvW W d.1 = 1 ∧ ∀ c ∈ ch, nvW W d.2.2.2.toNat ^ ((nvW W d.1 - 1) / nvW W c.1) % nvW W d.1 ≠ 1
def c_ffit (n : Nn) : Call := ⟨WS × ND × List ND, 2, (fun (W, d, ch) vs M => vs = [.inr (.inr 43), .inl (d.1 : Int)] ∧ XW n M W ∧ NdC W M d ch), .inr (fun (W, d, ch) _ M x M' => ((x = 1 ∧ FFt W d ch) ∨ (x = 0 ∧ ¬ FFt W d ch)) ∧ FrQ M M')⟩
set_option maxHeartbeats 4000000 in
theorem v_ffit (n : Nn) : Ver tX2_factorsFit (fdX2, icX2, lcX2, [(88, some 2, c_rdN n), (92, none, c_order), (76, some 2, c_wordAt n), (105, some 5, c_become), (109, some 5, c_trim), (112, some 2, c_mulT), (115, some 5, c_copyX), (119, none, c_sumX)]) 2 7 n (c_ffit n) := by
  rintro ⟨W, d, ch⟩ vs M0 ⟨rfl, hW, hC⟩ aw run
  have l46 : lnF n 46 = n.2.2 := rfl
  have w1 := hW.2.1
  have wo := hW.o
  have w2 := wo.1
  obtain ⟨o1_, o2, o3, o4, o5, o6, o7, o8⟩ := hC.o
  have hch := hC.2.2.1
  have hcn := hC.2.2.2.2
  rw [o8] at hch
  obtain ⟨p1, p2, p3, p4, p5, p6, p7, p8⟩ := nv_ok wo o1_
  obtain ⟨q1, q2, q3, q4, q5, q6, q7, q8⟩ := nv_ok wo o2
  obtain ⟨P, eP⟩ : ∃ P, P = nvW W d.1 := ⟨_, rfl⟩
  obtain ⟨Q, eQ⟩ : ∃ Q, Q = nvW W d.2.2.2.toNat := ⟨_, rfl⟩
  have eQ2 : nvW W (pE W d.1) = Q := by rw [eQ, o3]
  rw [← eP] at p1 p2 p6
  rw [eQ2] at q1 q2 q6
  have eF : FFt W d ch ↔ (Q < P ∧ IncP W P 0 ch ∧ prF W ch = P - 1) := by unfold FFt; rw [← eP, ← eQ]
  clear p8 q8 hC
  change aw 0 [some (.inr (.inr 43)), some (.inl (d.1 : Int)), none, none, none, none, none] [] M0
  refine run 90 [64] _ _ _ _ ?_
  refine And.intro rfl (And.intro rfl ⟨(W, d.1, 27), ⟨rfl, by decide, o1_, hW⟩, ?_⟩)
  rintro x M1 ⟨rfl, hX1, hF1⟩
  rw [← eP] at hX1
  refine And.intro rfl (And.intro rfl ⟨(W, pE W d.1, 29), ⟨rfl, by decide, o2, hW.fx hF1 (by decide)⟩, ?_⟩)
  rintro x M2 ⟨rfl, hX2, hF2⟩
  rw [eQ2] at hX2
  have hP2 := hF2.keep (by decide) (by decide) (by decide) hX1
  have f2 : FrQ M0 M2 := (hF1.Q (by decide) (by decide)).tr (hF2.Q (by decide) (by decide))
  refine And.intro rfl (And.intro rfl ⟨(29, 27, Q, P), ⟨rfl, by decide, by decide, hX2, by omega, hP2, by omega⟩, ?_⟩)
  rintro x M2 ⟨rfl, rfl⟩
  have hcm := cm3_cases Q P
  by_cases hQP : Q < P
  rotate_left
  · refine And.intro ⟨⟨by omega, by omega⟩, ⟨by omega, by omega⟩⟩ (And.intro (fun c1 => absurd c1 (by omega)) (fun _ => ?_))
    exact And.intro (Or.inl rfl) (Or.inl ⟨Or.inr ⟨rfl, fun z => hQP (eF.mp z).1⟩, f2⟩)
  refine And.intro ⟨⟨by omega, by omega⟩, ⟨by omega, by omega⟩⟩ (And.intro (fun _ => ?_) (fun c2 => absurd c2 (by omega)))
  refine And.intro rfl ⟨(W, (pE W (pE W d.1) : Int)), ⟨rfl, ⟨by omega, by omega⟩, f2.w hW⟩, ?_⟩
  rintro x M2 ⟨rfl, rfl⟩
  rw [wA_n o4, ← o7]
  refine And.intro rfl (And.intro rfl ⟨(35, 1), ⟨rfl, by decide, by decide⟩, ?_⟩)
  rintro M3 ⟨hX3, hF3⟩
  refine And.intro rfl (And.intro rfl ⟨(33, 0, 0), ⟨rfl, by decide, by omega, by decide, fun i hi => by omega⟩, ?_⟩)
  rintro M4 rfl
  have hX4 : XR (up2 M3 33 1 (nd 0 : Int)) 33 0 := XR.fix (k := 0) (fun i hi => by omega) (by decide)
  have hF4 : FrX M3 (up2 M3 33 1 (nd 0 : Int)) 33 := FrX.len
  generalize up2 M3 33 1 (nd 0 : Int) = M4 at *
  have f4 : FrQ M0 M4 := (f2.tr (hF3.Q (by decide) (by decide))).tr (hF4.Q (by decide) (by decide))
  have hP4 := hF4.keep (by decide) (by decide) (by decide) (hF3.keep (by decide) (by decide) (by decide) hP2)
  have hT4 := hF4.keep (by decide) (by decide) (by decide) hX3
  refine And.intro ?_ trivial
  have loop : ∀ (R : List ND) (k e T prev : Nat) (M : Mem) (o6 : Option AV), (k : Int) + (R.length : Int) = (ch.length : Int) → Chn W R e → (∀ c ∈ R, NdOk W c ∧ M0 46 c.1 = (En W c.1 : Int)) → ((IncP W P 0 ch ∧ prF W ch = P - 1) ↔ (IncP W P prev R ∧ T * prF W R = P - 1)) → 1 ≤ T → nd T ≤ 64 → nd prev ≤ 64 → XR M 27 P → XR M 35 T → XR M 33 prev → FrQ M0 M → (R ≠ [] → e < 1000) → aw 64 [some (.inr (.inr 43)), some (.inl (d.1 : Int)), some (.inl (pE W (pE W d.1) : Int)), some (.inl (ch.length : Int)), some (.inl (e : Int)), some (.inl (k : Int)), o6] [] M := by
    intro R
    induction R with
    | nil =>
      intro k e T prev M o6 hk _ _ hI T1 nT nprev hP hT hV hF _
      have hk : (k : Int) = (ch.length : Int) := by simpa using hk
      refine run 90 [64] _ _ _ _ ?_
      refine And.intro ⟨⟨by omega, by omega⟩, ⟨by omega, by omega⟩⟩ (And.intro (fun _ => ?_) (fun c2 => absurd c2 (by omega)))
      refine And.intro rfl (And.intro rfl ⟨(37, 1), ⟨rfl, by decide, by decide⟩, ?_⟩)
      rintro M5 ⟨hX5, hF5⟩
      refine And.intro rfl (And.intro rfl (And.intro rfl ⟨(37, 37, 35, 1, T), ⟨rfl, by decide, by decide, by decide, by decide, hX5, by rw [nd_1]; decide, hF5.keep (by decide) (by decide) (by decide) hT, by omega⟩, ?_⟩))
      rintro M6 ⟨hX6, hF6⟩
      have n1 : nd (1 + T) ≤ 65 := nd_le.mpr (cyA_top (n := 64) (by rw [nd_1]; decide) nT).2
      refine And.intro rfl (And.intro rfl ⟨(37, 27, 1 + T, P), ⟨rfl, by decide, by decide, hX6, by omega, hF6.keep (by decide) (by decide) (by decide) (hF5.keep (by decide) (by decide) (by decide) hP), by omega⟩, ?_⟩)
      rintro x M6 ⟨rfl, rfl⟩
      have f6 : FrQ M0 M6 := (hF.tr (hF5.Q (by decide) (by decide))).tr (hF6.Q (by decide) (by decide))
      have hcm := cm3_cases (1 + T) P
      have hI2 : (IncP W P 0 ch ∧ prF W ch = P - 1) ↔ 1 + T = P := by
        rw [hI]
        show True ∧ T * 1 = P - 1 ↔ 1 + T = P
        rw [Nat.mul_one]
        constructor
        · intro z
          have := z.2
          omega
        · intro z
          exact ⟨trivial, by omega⟩
      refine And.intro ⟨⟨by omega, by omega⟩, ⟨by omega, by omega⟩⟩ (And.intro (fun c1 => ?_) (fun c2 => ?_))
      · exact And.intro (Or.inl rfl) (Or.inl ⟨Or.inr ⟨rfl, fun z => by have := hI2.mp (eF.mp z).2; omega⟩, f6⟩)
      · exact And.intro (Or.inr rfl) (Or.inl ⟨Or.inl ⟨rfl, eF.mpr ⟨hQP, hI2.mpr (by omega)⟩⟩, f6⟩)
    | cons c R ih =>
      intro k e T prev M o6 hk hCh hOk hI T1 nT nprev hP hT hV hF he
      obtain ⟨k1, k2, k3, k4⟩ := hCh
      obtain ⟨ok, ok46⟩ := hOk c List.mem_cons_self
      have pc := (o1_b ok.1).1
      obtain ⟨u1, u2, u3, u4, u5, u6, u7, u8⟩ := nv_ok wo pc
      clear u8
      have kl : ((c :: R).length : Int) = (R.length : Int) + 1 := by simp
      have ew := ok.2.2
      have eI : IncP W P prev (c :: R) ↔ (prev < nvW W c.1 ∧ nvW W c.1 < P ∧ IncP W P (nvW W c.1) R) := Iff.rfl
      have ePr : prF W (c :: R) = nvW W c.1 ^ c.2.2.1.toNat * prF W R := rfl
      obtain ⟨t, et⟩ : ∃ t : Nat, c.2.2.1 = (t : Int) := ⟨c.2.2.1.toNat, by omega⟩
      rw [ePr, et, Int.toNat_natCast, ← Nat.mul_assoc] at hI
      have hW1 := hF.w hW
      have prp : 1 ≤ prF W R := prF_pos (fun x hx => (nv_ok wo (o1_b (hOk x (List.mem_cons_of_mem _ hx)).1.1).1).2.2.2.2.2.1)
      have hno : ∀ (M' : Mem) (o6 : Option AV), FrQ M0 M' → ¬ (IncP W P prev (c :: R) ∧ T * nvW W c.1 ^ t * prF W R = P - 1) → aw 136 [some (.inr (.inr 43)), some (.inl (d.1 : Int)), some (.inl (pE W (pE W d.1) : Int)), some (.inl (ch.length : Int)), some (.inl (e : Int)), some (.inl (k : Int)), o6] [] M' := by
        intro M' o6 hF' hn
        refine run 60 [] _ _ _ _ ?_
        exact And.intro (Or.inl rfl) (Or.inl ⟨Or.inr ⟨rfl, fun z => hn (hI.mp (eF.mp z).2)⟩, hF'⟩)
      have nvc : nd (nvW W c.1) ≤ 64 := u2
      generalize eU : nvW W c.1 = U at *
      refine run 90 [64, 136] _ _ _ _ ?_
      refine And.intro ⟨⟨by omega, by omega⟩, ⟨by omega, by omega⟩⟩ (And.intro (fun c1 => absurd c1 (by omega)) (fun _ => ?_))
      refine And.intro rfl ?_
      conv => whnf
      rw [show (e : Int) + 1 = (c.1 : Int) by omega]
      refine And.intro rfl ⟨(W, c.1, 31), ⟨rfl, by decide, pc, hW1⟩, ?_⟩
      rintro x M5 ⟨-, hX5, hF5⟩
      rw [eU] at hX5
      have hP5 := hF5.keep (by decide) (by decide) (by decide) hP
      have hT5 := hF5.keep (by decide) (by decide) (by decide) hT
      have hV5 := hF5.keep (by decide) (by decide) (by decide) hV
      have f5 : FrQ M0 M5 := hF.tr (hF5.Q (by decide) (by decide))
      refine And.intro rfl (And.intro rfl ⟨(31, 33, U, prev), ⟨rfl, by decide, by decide, hX5, by omega, hV5, by omega⟩, ?_⟩)
      rintro x M5 ⟨rfl, rfl⟩
      have hc1 := cm3_cases U prev
      refine And.intro ⟨⟨by omega, by omega⟩, ⟨by omega, by omega⟩⟩ (And.intro (fun c1 => ?_) (fun c2 => ?_))
      · refine And.intro ⟨⟨by omega, by omega⟩, ⟨by omega, by omega⟩⟩ (And.intro (fun _ => ?_) (fun c2 => absurd c2 (by omega)))
        exact And.intro (hno M5 _ f5 (fun z => by have := z.1.1; omega)) trivial
      refine And.intro rfl (And.intro rfl ⟨(31, 27, U, P), ⟨rfl, by decide, by decide, hX5, by omega, hP5, by omega⟩, ?_⟩)
      rintro x M5 ⟨rfl, rfl⟩
      have hc2 := cm3_cases U P
      refine And.intro ⟨⟨by omega, by omega⟩, ⟨by omega, by omega⟩⟩ (And.intro (fun c1 => ?_) (fun c2 => ?_))
      · refine And.intro ⟨⟨by omega, by omega⟩, ⟨by omega, by omega⟩⟩ (And.intro (fun _ => ?_) (fun c2 => absurd c2 (by omega)))
        exact And.intro (hno M5 _ f5 (fun z => by have := z.1.2.1; omega)) trivial
      refine And.intro ⟨⟨by omega, by omega⟩, ⟨by omega, by omega⟩⟩ (And.intro (fun c1 => absurd c1 (by omega)) (fun _ => ?_))
      refine And.intro rfl ⟨(W, (e : Int)), ⟨rfl, ⟨by omega, by omega⟩, f5.w hW⟩, ?_⟩
      rintro x M5 ⟨rfl, rfl⟩
      rw [wA_n k3, ← k2, et]
      refine And.intro rfl ⟨(t, T, U, P), ⟨rfl, by omega, by omega, hT5, nT, hX5, nvc, u6, hP5, p2⟩, ?_⟩
      rintro x M6 ⟨hx, hF6⟩
      have f6 : FrQ M0 M6 := f5.tr hF6.Q
      rcases hx with ⟨rfl, hn6, hT6⟩ | ⟨rfl, hn6⟩
      rotate_left
      · refine And.intro ⟨⟨by omega, by omega⟩, ⟨by omega, by omega⟩⟩ (And.intro (fun c1 => absurd c1 (by omega)) (fun _ => ?_))
        refine And.intro (hno M6 _ f6 (fun z => ?_)) trivial
        have h1 : T * U ^ t ≤ P := by
          have := Nat.mul_le_mul_left (T * U ^ t) prp
          have := z.2
          omega
        have := nd_mono h1
        omega
      refine And.intro ⟨⟨by omega, by omega⟩, ⟨by omega, by omega⟩⟩ (And.intro (fun _ => ?_) (fun c2 => absurd c2 (by omega)))
      have hU6 := hF6.keep (by decide) (by decide) hX5
      refine And.intro rfl (And.intro rfl (And.intro rfl ⟨(33, 31, U), ⟨rfl, by decide, by decide, by decide, hU6, by omega⟩, ?_⟩))
      rintro M7 ⟨hX7, hF7⟩
      have f7 : FrQ M0 M7 := f6.tr (hF7.Q (by decide) (by decide))
      have e46 : M7 46 c.1 = (En W c.1 : Int) := by rw [f7 46 (by omega)]; exact ok46
      have hlt : En W c.1 < 1000 ∨ R = [] := by
        cases R with
        | nil => exact Or.inr rfl
        | cons c2 R2 =>
          have := k4.2.2.1
          rw [← k1] at this
          exact Or.inl (by omega)
      refine And.intro rfl (And.intro ⟨rfl, by omega, by omega⟩ ?_)
      refine And.intro ?_ trivial
      rw [show ((e : Int) + 1).toNat = c.1 by omega, e46, show (k : Int) + 1 = ((k + 1 : Nat) : Int) by omega]
      have hTp : 1 ≤ T * U ^ t := Nat.mul_pos T1 (Nat.pow_pos u6)
      rw [← k1] at k4
      refine ih (k + 1) (En W c.1) (T * U ^ t) U M7 _ (by omega) k4 (fun x hx => hOk x (List.mem_cons_of_mem _ hx)) ?_ hTp (by omega) nvc (hF7.keep (by decide) (by decide) (by decide) (hF6.keep (by decide) (by decide) hP5)) (hF7.keep (by decide) (by decide) (by decide) hT6) hX7 f7 (fun z => hlt.resolve_right z)
      rw [hI]
      constructor
      · intro z
        refine ⟨?_, z.2⟩
        have := z.1.2.2
        rw [eU] at this
        exact this
      · intro z
        refine ⟨?_, z.2⟩
        show prev < nvW W c.1 ∧ nvW W c.1 < P ∧ IncP W P (nvW W c.1) R
        rw [eU]
        exact ⟨by omega, by omega, z.1⟩
  have := loop ch 0 (pE W (pE W d.1) + 1) 1 0 M4 none (by omega) hch hcn (by rw [Nat.one_mul]) (Nat.le_refl _) (by rw [nd_1]; decide) (by rw [nd_0]; decide) hP4 hT4 hX4 f4 (fun _ => by omega)
  exact this
theorem imX2_factorsFit {l : Launch} {Z : ZT} (hZ : ZOk Z) : Impl l Z yX2_factorsFit cX2_factorsFit 7 (some .boolean) 4 (c_ffit (zN Z)) := mkImpl (rt := 2) (CL := [(88, some 2, (c_rdN (zN Z))), (92, none, c_order), (76, some 2, (c_wordAt (zN Z))), (105, some 5, c_become), (109, some 5, c_trim), (112, some 2, c_mulT), (115, some 5, c_copyX), (119, none, c_sumX)]) hZ.1 hZ.2.1 (by decide +kernel) kX2_factorsFit fwX2 iwX2 lwX2 trivial (Nat.le_of_ble_eq_true rfl) (List.forall_mem_cons.mpr ⟨gX2_88 hZ (by decide), List.forall_mem_cons.mpr ⟨gX2_92 hZ (by decide), List.forall_mem_cons.mpr ⟨gX2_76 hZ (by decide), List.forall_mem_cons.mpr ⟨gX2_105 hZ (by decide), List.forall_mem_cons.mpr ⟨gX2_109 hZ (by decide), List.forall_mem_cons.mpr ⟨gX2_112 hZ (by decide), List.forall_mem_cons.mpr ⟨gX2_115 hZ (by decide), List.forall_mem_cons.mpr ⟨gX2_119 hZ (by decide), fun q h => absurd h List.not_mem_nil⟩⟩⟩⟩⟩⟩⟩⟩) ((v_ffit (zN Z)))
theorem gX2_98 {l : Launch} {Z : ZT} (hZ : ZOk Z) {d : Nat} (hd : 5 ≤ d) : CallI l Z RX2 d (98, some 2, (c_ffit (zN Z))) := fun p e s m args below meth c Q cc nL x0 X => callOk_V X (imX2_factorsFit hZ) (by decide) rfl mlX2_98 iw_yX2_factorsFit vw_yX2_factorsFit nw_RX2 cw_yX2_factorsFit ⟨by decide +kernel, by decide +kernel, show (parseMethodDescriptor yX2_factorsFit.desc).map (fun d => d.parameters.length) = some 1 by decide +kernel⟩ ⟨hd, by decide⟩
/-- rows alone have changed -/
def FrZ (M M' : Mem) : Prop := ∀ o, (o < 7 ∨ 38 < o) → M' o = M o
theorem FrZ.rf (M : Mem) : FrZ M M := fun _ _ => rfl
theorem FrZ.tr {M M1 M2 : Mem} (h : FrZ M M1) (h2 : FrZ M1 M2) : FrZ M M2 := fun o a => (h2 o a).trans (h o a)
theorem FrX.Z {M M' : Mem} {r : Nat} (h : FrX M M' r) (hr : isRw r) : FrZ M M' := fun o a => h o (by omega) (by omega)
theorem FrK.Z {M M' : Mem} (h : FrK M M') : FrZ M M' := fun o a => h o (by omega)
theorem FrQ.Z {M M' : Mem} (h : FrQ M M') : FrZ M M' := fun o a => h o (by omega)
theorem FrZ.w {n : Nn} {M M' : Mem} {W : WS} (h : FrZ M M') (hW : XW n M W) : XW n M' W := hW.fr (by rw [h 43 (by omega)]) (h 44 (by omega))
def c_wit (n : Nn) : Call := ⟨WS × ND × List ND, 3, (fun (W, d, ch) vs M => vs = [.inr (.inr 43), .inl (d.1 : Int), .inr (.inr 6)] ∧ XW n M W ∧ NdC W M d ch), .inr (fun (W, d, ch) _ M x M' => ((x = 1 ∧ WHd W d ch) ∨ (x = 0 ∧ ¬ WHd W d ch)) ∧ FrZ M M')⟩
set_option maxHeartbeats 4000000 in
theorem v_wit (n : Nn) : Ver tX2_witnessHolds (fdX2, icX2, lcX2, [(88, some 2, c_rdN n), (105, some 5, c_become), (126, none, c_differenceX), (129, some 0, c_raise), (135, some 5, c_isOneX), (76, some 2, c_wordAt n), (139, some 0, c_divX), (115, some 5, c_copyX)]) 2 7 n (c_wit n) := by
  rintro ⟨W, d, ch⟩ vs M0 ⟨rfl, hW, hC⟩ aw run
  have l46 : lnF n 46 = n.2.2 := rfl
  have w1 := hW.2.1
  have wo := hW.o
  have w2 := wo.1
  obtain ⟨o1_, o2, o3, o4, o5, o6, o7, o8⟩ := hC.o
  have hch := hC.2.2.1
  have hcn := hC.2.2.2.2
  rw [o8] at hch
  obtain ⟨p1, p2, p3, p4, p5, p6, p7, p8⟩ := nv_ok wo o1_
  obtain ⟨q1, q2, q3, q4, q5, q6, q7, q8⟩ := nv_ok wo o2
  obtain ⟨P, eP⟩ : ∃ P, P = nvW W d.1 := ⟨_, rfl⟩
  obtain ⟨Q, eQ⟩ : ∃ Q, Q = nvW W d.2.2.2.toNat := ⟨_, rfl⟩
  have eQ2 : nvW W (pE W d.1) = Q := by rw [eQ, o3]
  rw [← eP] at p1 p2 p6
  rw [eQ2] at q1 q2 q6
  have eF : WHd W d ch ↔ (Q ^ (P - 1) % P = 1 ∧ ∀ c ∈ ch, Q ^ ((P - 1) / nvW W c.1) % P ≠ 1) := by unfold WHd; rw [← eP, ← eQ]
  clear p8 q8 hC
  have hmd := fun x : Nat => nd_md (a := x) (m := P) (by omega)
  have nP1 : nd (P - 1) ≤ nd P := nd_mono (Nat.sub_le _ _)
  change aw 0 [some (.inr (.inr 43)), some (.inl (d.1 : Int)), some (.inr (.inr 6)), none, none, none, none] [] M0
  refine run 90 [84] _ _ _ _ ?_
  refine And.intro rfl (And.intro rfl ⟨(W, d.1, 27), ⟨rfl, by decide, o1_, hW⟩, ?_⟩)
  rintro x M1 ⟨rfl, hX1, hF1⟩
  rw [← eP] at hX1
  refine And.intro rfl (And.intro rfl ⟨(W, pE W d.1, 29), ⟨rfl, by decide, o2, hW.fx hF1 (by decide)⟩, ?_⟩)
  rintro x M2 ⟨rfl, hX2, hF2⟩
  rw [eQ2] at hX2
  have hP2 := hF2.keep (by decide) (by decide) (by decide) hX1
  refine And.intro rfl (And.intro rfl ⟨(37, 1), ⟨rfl, by decide, by decide⟩, ?_⟩)
  rintro M3 ⟨hX3, hF3⟩
  have hP3 := hF3.keep (by decide) (by decide) (by decide) hP2
  have hQ3 := hF3.keep (by decide) (by decide) (by decide) hX2
  refine And.intro rfl (And.intro rfl (And.intro rfl ⟨(35, 27, 37, P, 1), ⟨rfl, by decide, by decide, by decide, by decide, by decide, hP3, by omega, hX3, p6⟩, ?_⟩))
  rintro M4 ⟨hX4, hF4⟩
  have hP4 := hF4.keep (by decide) (by decide) (by decide) hP3
  have hQ4 := hF4.keep (by decide) (by decide) (by decide) hQ3
  have f4 : FrZ M0 M4 := (((hF1.Z (by decide)).tr (hF2.Z (by decide))).tr (hF3.Z (by decide))).tr (hF4.Z (by decide))
  refine And.intro rfl (And.intro rfl (And.intro rfl (And.intro rfl ⟨(29, 35, 27, Q, P - 1, P), ⟨rfl, by decide, by decide, by decide, hQ4, q2, hX4, by omega, hP4, p2, by omega⟩, ?_⟩)))
  rintro M5 ⟨hX5, hF5⟩
  have n5 := hmd (Q ^ (P - 1))
  have f5 := f4.tr hF5.Z
  refine And.intro rfl (And.intro rfl ⟨(11, Q ^ (P - 1) % P), ⟨rfl, by decide, hX5, by omega⟩, ?_⟩)
  rintro x M5 ⟨hx, rfl⟩
  rcases hx with ⟨rfl, hx⟩ | ⟨rfl, hx⟩
  rotate_left
  · refine And.intro ⟨⟨by omega, by omega⟩, ⟨by omega, by omega⟩⟩ (And.intro (fun c1 => absurd c1 (by omega)) (fun _ => ?_))
    exact And.intro (Or.inl rfl) (Or.inl ⟨Or.inr ⟨rfl, fun z => hx (eF.mp z).1⟩, f5⟩)
  refine And.intro ⟨⟨by omega, by omega⟩, ⟨by omega, by omega⟩⟩ (And.intro (fun _ => ?_) (fun c2 => absurd c2 (by omega)))
  refine And.intro rfl ⟨(W, (pE W (pE W d.1) : Int)), ⟨rfl, ⟨by omega, by omega⟩, f5.w hW⟩, ?_⟩
  rintro x M5 ⟨rfl, rfl⟩
  rw [wA_n o4, ← o7]
  refine And.intro ?_ trivial
  have loop : ∀ (R : List ND) (k e : Nat) (M : Mem), (k : Int) + (R.length : Int) = (ch.length : Int) → Chn W R e → (∀ c ∈ R, NdOk W c ∧ M0 46 c.1 = (En W c.1 : Int)) → ((∀ c ∈ ch, Q ^ ((P - 1) / nvW W c.1) % P ≠ 1) ↔ (∀ c ∈ R, Q ^ ((P - 1) / nvW W c.1) % P ≠ 1)) → XR M 27 P → XR M 29 Q → XR M 35 (P - 1) → FrZ M0 M → aw 84 [some (.inr (.inr 43)), some (.inl (d.1 : Int)), some (.inr (.inr 6)), some (.inl (pE W (pE W d.1) : Int)), some (.inl (ch.length : Int)), some (.inl (e : Int)), some (.inl (k : Int))] [] M := by
    intro R
    induction R with
    | nil =>
      intro k e M hk _ _ hI hP hQ hT hF
      have hk : (k : Int) = (ch.length : Int) := by simpa using hk
      refine run 90 [84] _ _ _ _ ?_
      refine And.intro ⟨⟨by omega, by omega⟩, ⟨by omega, by omega⟩⟩ (And.intro (fun _ => ?_) (fun c2 => absurd c2 (by omega)))
      exact And.intro (Or.inr rfl) (Or.inl ⟨Or.inl ⟨rfl, eF.mpr ⟨hx, hI.mpr (fun c hc => absurd hc List.not_mem_nil)⟩⟩, hF⟩)
    | cons c R ih =>
      intro k e M hk hCh hOk hI hP hQ hT hF
      obtain ⟨k1, k2, k3, k4⟩ := hCh
      obtain ⟨ok, ok46⟩ := hOk c List.mem_cons_self
      have pc := (o1_b ok.1).1
      obtain ⟨u1, u2, u3, u4, u5, u6, u7, u8⟩ := nv_ok wo pc
      clear u8
      have kl : ((c :: R).length : Int) = (R.length : Int) + 1 := by simp
      refine run 90 [84] _ _ _ _ ?_
      refine And.intro ⟨⟨by omega, by omega⟩, ⟨by omega, by omega⟩⟩ (And.intro (fun c1 => absurd c1 (by omega)) (fun _ => ?_))
      refine And.intro rfl ?_
      conv => whnf
      rw [show (e : Int) + 1 = (c.1 : Int) by omega]
      refine And.intro rfl ⟨(W, c.1, 31), ⟨rfl, by decide, pc, hF.w hW⟩, ?_⟩
      rintro x M6 ⟨-, hX6, hF6⟩
      have hP6 := hF6.keep (by decide) (by decide) (by decide) hP
      have hQ6 := hF6.keep (by decide) (by decide) (by decide) hQ
      have hT6 := hF6.keep (by decide) (by decide) (by decide) hT
      refine And.intro rfl (And.intro rfl (And.intro rfl ⟨(35, 31, P - 1, nvW W c.1), ⟨rfl, by decide, by decide, hT6, by omega, hX6, by omega⟩, ?_⟩))
      rintro M7 ⟨hX7, -, hF7⟩
      have hP7 := hF7.keep (by decide) hP6
      have hQ7 := hF7.keep (by decide) hQ6
      have hT7 := hF7.keep (by decide) hT6
      have nq : nd ((P - 1) / nvW W c.1) ≤ nd (P - 1) := nd_mono (Nat.div_le_self _ _)
      refine And.intro rfl (And.intro rfl (And.intro rfl ⟨(37, 7, (P - 1) / nvW W c.1), ⟨rfl, by decide, by decide, by decide, hX7, by omega⟩, ?_⟩))
      rintro M8 ⟨hX8, hF8⟩
      have hP8 := hF8.keep (by decide) (by decide) (by decide) hP7
      have hQ8 := hF8.keep (by decide) (by decide) (by decide) hQ7
      have hT8 := hF8.keep (by decide) (by decide) (by decide) hT7
      refine And.intro rfl (And.intro rfl (And.intro rfl (And.intro rfl ⟨(29, 37, 27, Q, (P - 1) / nvW W c.1, P), ⟨rfl, by decide, by decide, by decide, hQ8, q2, hX8, by omega, hP8, p2, by omega⟩, ?_⟩)))
      rintro M9 ⟨hX9, hF9⟩
      have n9 := hmd (Q ^ ((P - 1) / nvW W c.1))
      have f9 : FrZ M0 M9 := (((hF.tr (hF6.Z (by decide))).tr hF7.K.Z).tr (hF8.Z (by decide))).tr hF9.Z
      refine And.intro rfl (And.intro rfl ⟨(11, Q ^ ((P - 1) / nvW W c.1) % P), ⟨rfl, by decide, hX9, by omega⟩, ?_⟩)
      rintro x M9 ⟨hy, rfl⟩
      rcases hy with ⟨rfl, hy⟩ | ⟨rfl, hy⟩
      · refine And.intro ⟨⟨by omega, by omega⟩, ⟨by omega, by omega⟩⟩ (And.intro (fun c1 => absurd c1 (by omega)) (fun _ => ?_))
        exact And.intro (Or.inl rfl) (Or.inl ⟨Or.inr ⟨rfl, fun z => (hI.mp (eF.mp z).2) c List.mem_cons_self hy⟩, f9⟩)
      refine And.intro ⟨⟨by omega, by omega⟩, ⟨by omega, by omega⟩⟩ (And.intro (fun _ => ?_) (fun c2 => absurd c2 (by omega)))
      have e46 : M9 46 c.1 = (En W c.1 : Int) := by rw [f9 46 (by omega)]; exact ok46
      refine And.intro rfl (And.intro ⟨rfl, by omega, by omega⟩ ?_)
      refine And.intro ?_ trivial
      rw [show ((e : Int) + 1).toNat = c.1 by omega, e46, show (k : Int) + 1 = ((k + 1 : Nat) : Int) by omega]
      rw [← k1] at k4
      refine ih (k + 1) (En W c.1) M9 (by omega) k4 (fun x hx => hOk x (List.mem_cons_of_mem _ hx)) ?_ (hF9.keep (by decide) hP8) (hF9.keep (by decide) hQ8) (hF9.keep (by decide) hT8) f9
      rw [hI]
      constructor
      · intro z x hx
        exact z x (List.mem_cons_of_mem _ hx)
      · intro z x hx
        rcases List.mem_cons.mp hx with h | h
        · rw [h]
          exact hy
        · exact z x h
  exact loop ch 0 (pE W (pE W d.1) + 1) M5 (by omega) hch hcn Iff.rfl (hF5.keep (by decide) hP4) (hF5.keep (by decide) hQ4) (hF5.keep (by decide) hX4) f5
theorem imX2_witnessHolds {l : Launch} {Z : ZT} (hZ : ZOk Z) : Impl l Z yX2_witnessHolds cX2_witnessHolds 7 (some .boolean) 6 (c_wit (zN Z)) := mkImpl (rt := 2) (CL := [(88, some 2, (c_rdN (zN Z))), (105, some 5, c_become), (126, none, c_differenceX), (129, some 0, c_raise), (135, some 5, c_isOneX), (76, some 2, (c_wordAt (zN Z))), (139, some 0, c_divX), (115, some 5, c_copyX)]) hZ.1 hZ.2.1 (by decide +kernel) kX2_witnessHolds fwX2 iwX2 lwX2 trivial (Nat.le_of_ble_eq_true rfl) (List.forall_mem_cons.mpr ⟨gX2_88 hZ (by decide), List.forall_mem_cons.mpr ⟨gX2_105 hZ (by decide), List.forall_mem_cons.mpr ⟨gX2_126 hZ (by decide), List.forall_mem_cons.mpr ⟨gX2_129 hZ (by decide), List.forall_mem_cons.mpr ⟨gX2_135 hZ (by decide), List.forall_mem_cons.mpr ⟨gX2_76 hZ (by decide), List.forall_mem_cons.mpr ⟨gX2_139 hZ (by decide), List.forall_mem_cons.mpr ⟨gX2_115 hZ (by decide), fun q h => absurd h List.not_mem_nil⟩⟩⟩⟩⟩⟩⟩⟩) ((v_wit (zN Z)))
theorem gX2_101 {l : Launch} {Z : ZT} (hZ : ZOk Z) {d : Nat} (hd : 7 ≤ d) : CallI l Z RX2 d (101, some 2, (c_wit (zN Z))) := fun p e s m args below meth c Q cc nL x0 X => callOk_V X (imX2_witnessHolds hZ) (by decide) rfl mlX2_101 iw_yX2_witnessHolds vw_yX2_witnessHolds nw_RX2 cw_yX2_witnessHolds ⟨by decide +kernel, by decide +kernel, show (parseMethodDescriptor yX2_witnessHolds.desc).map (fun d => d.parameters.length) = some 2 by decide +kernel⟩ ⟨hd, by decide⟩
