/-! ===== the class: tape and digits ===== -/
def XT (M : Mem) (T : TS) : Prop := M 39 1 = (T.1 : Int) ∧ T.1 ≤ 1000 ∧ ∀ i, i < T.1 → M 40 i = T.2 i ∧ 0 ≤ T.2 i ∧ T.2 i < 256
theorem XT.cong {M : Mem} {T : TS} {f : Nat → Int} (h : XT M T) (e : ∀ i, i < T.1 → f i = T.2 i) : XT M (T.1, f) := ⟨h.1, h.2.1, fun i hi => by show M 40 i = f i ∧ 0 ≤ f i ∧ f i < 256; rw [e i hi]; exact h.2.2 i hi⟩
theorem XT.fr {M M' : Mem} {T : TS} (h : XT M T) (e1 : M' 39 = M 39) (e2 : M' 40 = M 40) : XT M' T := by
  unfold XT at *
  rw [e1, e2]
  exact h
def FXT (M M' : Mem) : Prop := ∀ o, o ≠ 39 → o ≠ 40 → M' o = M o
theorem FXT.tr {M M1 M2 : Mem} (h : FXT M M1) (h2 : FXT M1 M2) : FXT M M2 := fun o a b => (h2 o a b).trans (h o a b)
def c_hasSpT : Call := ⟨TS × Int, 2, (fun (T, k) vs M => vs = [.inr (.inr 39), .inl k] ∧ XT M T ∧ 0 ≤ k ∧ k ≤ 1000), .inr (fun (T, k) _ M x M' => ((x = 1 ∧ (T.1 : Int) + k ≤ 1000) ∨ (x = 0 ∧ ¬ (T.1 : Int) + k ≤ 1000)) ∧ M' = M)⟩
theorem v_hasSpT (n : Nn) : Ver tX6_hasSpace (fdX6, icX6, lcX6, []) 2 2 n c_hasSpT := by
  rintro ⟨T, k⟩ vs M0 ⟨rfl, hT, hk1, hk2⟩ aw run
  have l40 : lnF n 40 = 1000 := rfl
  have h1 := hT.1
  have h2 := hT.2.1
  change aw 0 [some (.inr (.inr 39)), some (.inl k)] [] M0
  refine run 60 [] _ _ _ _ ?_
  refine And.intro rfl (And.intro rfl (And.intro rfl ?_))
  conv => whnf
  rw [h1]
  refine And.intro ⟨⟨by omega, by omega⟩, ⟨by omega, by omega⟩⟩ (And.intro (fun c1 => ?_) (fun c2 => ?_))
  · exact And.intro (Or.inl rfl) (Or.inl ⟨Or.inr ⟨rfl, by omega⟩, rfl⟩)
  · exact And.intro (Or.inr rfl) (Or.inl ⟨Or.inl ⟨rfl, by omega⟩, rfl⟩)
theorem imX6_hasSpace {l : Launch} {Z : ZT} (hZ : ZOk Z) : Impl l Z yX6_hasSpace cX6_hasSpace 2 (some .boolean) 1 c_hasSpT := mkImpl (rt := 2) (CL := []) hZ.1 hZ.2.1 (by decide +kernel) kX6_hasSpace fwX6 iwX6 lwX6 trivial (Nat.le_of_ble_eq_true rfl) (fun q h => absurd h List.not_mem_nil) ((v_hasSpT _))
theorem gX7_238 {l : Launch} {Z : ZT} (hZ : ZOk Z) {d : Nat} (hd : 2 ≤ d) : CallI l Z RX7 d (238, some 6, c_hasSpT) := fun p e s m args below meth c Q cc nL x0 X => callOk_V X (imX6_hasSpace hZ) (by decide) rfl mlX7_238 iw_yX6_hasSpace vw_yX6_hasSpace nw_RX6 cw_yX6_hasSpace ⟨by decide +kernel, by decide +kernel, by decide +kernel⟩ ⟨hd, by decide⟩
def putT (T : TS) (v : Int) (k : Nat) : TS := (T.1 + k, fun i => if i < T.1 then T.2 i else byt v (i - T.1))
def c_putB : Call := ⟨TS × Int, 2, (fun (T, v) vs M => vs = [.inr (.inr 39), .inl v] ∧ inR v ∧ XT M T ∧ T.1 + 4 ≤ 1000), .inl (fun (T, v) _ M M' => XT M' (putT T v 4) ∧ FXT M M')⟩
theorem v_putB (n : Nn) : Ver tX6_putBytesOf (fdX6, icX6, lcX6, []) 0 3 n c_putB := by
  rintro ⟨T, v⟩ vs M0 ⟨rfl, hv, hT, h4⟩ aw run
  have l40 : lnF n 40 = 1000 := rfl
  unfold inR at hv
  have loop : ∀ (r k : Nat) (M : Mem), k + r = 4 → XT M (putT T v k) → FXT M0 M → aw 3 [some (.inr (.inr 39)), some (.inl v), some (.inl (24 - 8 * (k : Int)))] [] M := by
    intro r
    induction r with
    | zero =>
      intro k M hk hX hF
      obtain rfl : k = 4 := by omega
      refine run 60 [3] _ _ _ _ ?_
      refine And.intro ⟨⟨by omega, by omega⟩, ⟨by omega, by omega⟩⟩ (And.intro (fun _ => ?_) (fun c2 => absurd c2 (by omega)))
      exact Or.inl ⟨hX, hF⟩
    | succ r ih =>
      intro k M hk hX hF
      have h1 : M 39 1 = ((T.1 + k : Nat) : Int) := hX.1
      refine run 60 [3] _ _ _ _ ?_
      refine And.intro ⟨⟨by omega, by omega⟩, ⟨by omega, by omega⟩⟩ (And.intro (fun c1 => absurd c1 (by omega)) (fun _ => ?_))
      refine And.intro rfl (And.intro rfl (And.intro rfl ?_))
      conv => whnf
      rw [h1]
      refine And.intro ⟨⟨by omega, by omega⟩, ⟨by omega, by omega⟩⟩ (And.intro (fun c1 => absurd c1 (by omega)) (fun _ => ?_))
      refine And.intro rfl (And.intro rfl (And.intro ⟨⟨by omega, by omega⟩, by omega, by omega⟩ (And.intro ⟨rfl, by omega, by omega⟩ (And.intro rfl (And.intro rfl (And.intro ?_ trivial))))))
      rw [h1, Int.toNat_natCast, up2_i (show 39 ≠ 40 by decide), h1, bAnd_8, show (24 - 8 * (k : Int)).toNat = 24 - 8 * k by omega, show 24 - 8 * (k : Int) + -8 = 24 - 8 * ((k + 1 : Nat) : Int) by omega]
      refine ih (k + 1) _ (by omega) ⟨?_, ?_, fun i hi => ?_⟩ (fun o p q => by rw [up2_i p, up2_i q]; exact hF o p q)
      · rw [up2_s]
        show ((T.1 + k : Nat) : Int) + 1 = ((T.1 + (k + 1) : Nat) : Int)
        omega
      · show T.1 + (k + 1) ≤ 1000
        omega
      · change i < T.1 + (k + 1) at hi
        rw [up2_i (by decide)]
        show _ = (if i < T.1 then T.2 i else byt v (i - T.1)) ∧ 0 ≤ (if i < T.1 then T.2 i else byt v (i - T.1)) ∧ (if i < T.1 then T.2 i else byt v (i - T.1)) < 256
        by_cases c : i = T.1 + k
        · rw [c, up2_s, if_neg (by omega), show T.1 + k - T.1 = k by omega]
          exact ⟨rfl, byt_b v k⟩
        · rw [up2_k c]
          exact hX.2.2 i (show i < T.1 + k by omega)
  change aw 0 [some (.inr (.inr 39)), some (.inl v), none] [] M0
  refine run 60 [3] _ _ _ _ ?_
  refine And.intro ?_ trivial
  exact loop 4 0 M0 rfl (hT.cong (f := fun i => if i < T.1 then T.2 i else byt v (i - T.1)) (fun i hi => if_pos hi)) (fun _ _ _ => rfl)
theorem imX6_putBytesOf {l : Launch} {Z : ZT} (hZ : ZOk Z) : Impl l Z yX6_putBytesOf cX6_putBytesOf 3 none 1 c_putB := mkImpl (rt := 0) (CL := []) hZ.1 hZ.2.1 (by decide +kernel) kX6_putBytesOf fwX6 iwX6 lwX6 trivial (Nat.le_of_ble_eq_true rfl) (fun q h => absurd h List.not_mem_nil) ((v_putB _))
theorem gX7_241 {l : Launch} {Z : ZT} (hZ : ZOk Z) {d : Nat} (hd : 2 ≤ d) : CallI l Z RX7 d (241, some 6, c_putB) := fun p e s m args below meth c Q cc nL x0 X => callOk_V X (imX6_putBytesOf hZ) (by decide) rfl mlX7_241 iw_yX6_putBytesOf vw_yX6_putBytesOf nw_RX6 cw_yX6_putBytesOf ⟨by decide +kernel, by decide +kernel, by decide +kernel⟩ ⟨hd, by decide⟩
def c_digX : Call := ⟨Int × Nat, 1, (fun (c, _) vs _ => vs = [.inl c] ∧ inR c), .inr (fun (c, _) _ M x M' => ((0 ≤ dgC c ∧ dgC c ≤ 35 ∧ x = dgC c) ∨ (dgC c = 99 ∧ x = 36)) ∧ M' = M)⟩
theorem v_digX (n : Nn) : Ver tX6_digitOf (fdX6, icX6, lcX6, []) 1 1 n c_digX := by
  rintro ⟨c, z⟩ vs M0 ⟨rfl, hc⟩ aw run
  unfold inR at hc
  have two : ¬ (48 ≤ c ∧ c ≤ 57) → aw 17 [some (.inl c)] [] M0 := by
    intro hn
    have e : dgC c = if 97 ≤ c ∧ c ≤ 122 then c - 97 + 10 else 99 := if_neg hn
    refine run 60 [] _ _ _ _ ?_
    refine And.intro ⟨⟨by omega, by omega⟩, ⟨by omega, by omega⟩⟩ (And.intro (fun c1 => ?_) (fun c2 => ?_))
    · rw [if_neg (by omega)] at e
      exact Or.inl ⟨Or.inr ⟨e, rfl⟩, rfl⟩
    refine And.intro ⟨⟨by omega, by omega⟩, ⟨by omega, by omega⟩⟩ (And.intro (fun c1 => ?_) (fun c2 => ?_))
    · rw [if_neg (by omega)] at e
      exact Or.inl ⟨Or.inr ⟨e, rfl⟩, rfl⟩
    · rw [if_pos (by omega)] at e
      exact Or.inl ⟨Or.inl ⟨by omega, by omega, e.symm⟩, rfl⟩
  change aw 0 [some (.inl c)] [] M0
  refine run 60 [17] _ _ _ _ ?_
  refine And.intro ⟨⟨by omega, by omega⟩, ⟨by omega, by omega⟩⟩ (And.intro (fun c1 => ?_) (fun c2 => ?_))
  · exact And.intro (two (by omega)) trivial
  refine And.intro ⟨⟨by omega, by omega⟩, ⟨by omega, by omega⟩⟩ (And.intro (fun c1 => ?_) (fun c2 => ?_))
  · exact And.intro (two (by omega)) trivial
  · have e : dgC c = c - 48 := if_pos (by omega)
    exact Or.inl ⟨Or.inl ⟨by omega, by omega, e.symm⟩, rfl⟩
theorem imX6_digitOf {l : Launch} {Z : ZT} (hZ : ZOk Z) : Impl l Z yX6_digitOf cX6_digitOf 1 (some .int) 1 c_digX := mkImpl (rt := 1) (CL := []) hZ.1 hZ.2.1 (by decide +kernel) kX6_digitOf fwX6 iwX6 lwX6 trivial (Nat.le_of_ble_eq_true rfl) (fun q h => absurd h List.not_mem_nil) ((v_digX _))
theorem gX6_19 {l : Launch} {Z : ZT} (hZ : ZOk Z) {d : Nat} (hd : 2 ≤ d) : CallI l Z RX6 d (19, none, c_digX) := fun p e s m args below meth c Q cc nL x0 X => callOk_S X (imX6_digitOf hZ) mlX6_19 sw_yX6_digitOf nw_RX6 cw_yX6_digitOf ⟨by decide +kernel, by decide +kernel, by decide +kernel⟩ ⟨hd, by decide⟩
def c_digA : Call := ⟨TS × Int, 2, (fun (T, b) vs M => vs = [.inr (.inr 39), .inl b] ∧ XT M T ∧ 2 ≤ b ∧ b ≤ 36), .inr (fun (T, b) _ M x M' => x = (gdF T.2 b T.1 0 : Int) ∧ M' = M)⟩
theorem v_digA (n : Nn) : Ver tX6_digitsAhead (fdX6, icX6, lcX6, [(19, none, c_digX)]) 1 3 n c_digA := by
  rintro ⟨T, b⟩ vs M0 ⟨rfl, hT, hb1, hb2⟩ aw run
  have l40 : lnF n 40 = 1000 := rfl
  have h1 := hT.1
  have h2 := hT.2.1
  have loop : ∀ r i : Nat, i + r = T.1 → gdF T.2 b r i = gdF T.2 b T.1 0 → aw 2 [some (.inr (.inr 39)), some (.inl b), some (.inl (i : Int))] [] M0 := by
    intro r
    induction r with
    | zero =>
      intro i hi hg
      refine run 60 [2] _ _ _ _ ?_
      refine And.intro rfl ?_
      refine And.intro ⟨⟨by omega, by omega⟩, ⟨by omega, by omega⟩⟩ (And.intro (fun _ => ?_) (fun c2 => absurd c2 (by omega)))
      refine Or.inl ⟨?_, rfl⟩
      show (i : Int) = (gdF T.2 b T.1 0 : Int)
      rw [← hg]
      rfl
    | succ r ih =>
      intro i hi hg
      have hb := hT.2.2 i (by omega)
      rw [gdF] at hg
      refine run 60 [2] _ _ _ _ ?_
      refine And.intro rfl ?_
      refine And.intro ⟨⟨by omega, by omega⟩, ⟨by omega, by omega⟩⟩ (And.intro (fun c1 => absurd c1 (by omega)) (fun _ => ?_))
      refine And.intro rfl (And.intro ⟨rfl, by omega, by omega⟩ ?_)
      conv => whnf
      rw [Int.toNat_natCast, hb.1]
      refine ⟨(T.2 i, 0), ⟨rfl, ⟨by omega, by omega⟩⟩, ?_⟩
      rintro x M0 ⟨hx, rfl⟩
      have hin : -5 ≤ x ∧ x ≤ 100 := by omega
      refine And.intro ⟨⟨by omega, by omega⟩, ⟨by omega, by omega⟩⟩ (And.intro (fun c1 => ?_) (fun c2 => ?_))
      · rw [if_neg (by omega)] at hg
        refine Or.inl ⟨?_, rfl⟩
        show (i : Int) = (gdF T.2 b T.1 0 : Int)
        rw [← hg]
      · rw [if_pos (by omega)] at hg
        refine And.intro ?_ trivial
        rw [show (i : Int) + 1 = ((i + 1 : Nat) : Int) by omega]
        exact ih (i + 1) (by omega) hg
  change aw 0 [some (.inr (.inr 39)), some (.inl b), none] [] M0
  refine run 60 [2] _ _ _ _ ?_
  exact And.intro (loop T.1 0 (by omega) rfl) trivial
theorem imX6_digitsAhead {l : Launch} {Z : ZT} (hZ : ZOk Z) : Impl l Z yX6_digitsAhead cX6_digitsAhead 3 (some .int) 2 c_digA := mkImpl (rt := 1) (CL := [(19, none, c_digX)]) hZ.1 hZ.2.1 (by decide +kernel) kX6_digitsAhead fwX6 iwX6 lwX6 trivial (Nat.le_of_ble_eq_true rfl) (List.forall_mem_cons.mpr ⟨gX6_19 hZ (by decide), fun q h => absurd h List.not_mem_nil⟩) ((v_digA _))
theorem gX7_247 {l : Launch} {Z : ZT} (hZ : ZOk Z) {d : Nat} (hd : 3 ≤ d) : CallI l Z RX7 d (247, some 6, c_digA) := fun p e s m args below meth c Q cc nL x0 X => callOk_V X (imX6_digitsAhead hZ) (by decide) rfl mlX7_247 iw_yX6_digitsAhead vw_yX6_digitsAhead nw_RX6 cw_yX6_digitsAhead ⟨by decide +kernel, by decide +kernel, by decide +kernel⟩ ⟨hd, by decide⟩
theorem hvF_mono {tp : Nat → Int} {b : Nat} (hb : 1 ≤ b) (k : Nat) : ∀ m, hvF tp b k ≤ hvF tp b (k + m) := by
  intro m
  induction m with
  | zero => exact Nat.le_refl _
  | succ m ih =>
    rw [← Nat.add_assoc, hvF]
    have := Nat.mul_le_mul_left (hvF tp b (k + m)) hb
    omega
def c_readT : Call := ⟨TS × Nat × Nat, 3, (fun (T, r, b) vs M => vs = [.inr (.inr 39), .inr (.inr r), .inl (b : Int)] ∧ isRw r ∧ XT M T ∧ 2 ≤ b ∧ b ≤ 36 ∧ ∀ i, i < T.1 → dgC (T.2 i) < (b : Int)), .inl (fun (T, r, b) _ M M' => ∃ v, XR M' r v ∧ ((nd v ≤ 64 ∧ v = hvF T.2 b T.1) ∨ (64 < nd v ∧ nd v ≤ 130 ∧ 64 < nd (hvF T.2 b T.1))) ∧ FrX M M' r)⟩
theorem v_readT (n : Nn) : Ver tX6_readNumber (fdX6, icX6, lcX6, [(23, some 5, c_trim), (19, none, c_digX), (32, some 5, c_timesPlus)]) 0 4 n c_readT := by
  rintro ⟨T, r, b⟩ vs M0 ⟨rfl, hr, hT, hb1, hb2, hD⟩ aw run
  have l40 : lnF n 40 = 1000 := rfl
  have h2 := hT.2.1
  have loop : ∀ (m i : Nat) (M : Mem), i + m = T.1 → XR M r (hvF T.2 b i) → nd (hvF T.2 b i) ≤ 65 → FrX M0 M r → aw 7 [some (.inr (.inr 39)), some (.inr (.inr r)), some (.inl (b : Int)), some (.inl (i : Int))] [] M := by
    intro m
    induction m with
    | zero =>
      intro i M hi hX hn hF
      obtain rfl : i = T.1 := by omega
      have h1 : M 39 1 = (T.1 : Int) := by rw [hF 39 (by omega) (by omega)]; exact hT.1
      refine run 60 [7] _ _ _ _ ?_
      refine And.intro rfl ?_
      refine And.intro ⟨⟨by omega, by omega⟩, ⟨by omega, by omega⟩⟩ (And.intro (fun _ => ?_) (fun c2 => absurd c2 (by omega)))
      refine Or.inl ⟨hvF T.2 b T.1, hX, ?_, hF⟩
      by_cases c : nd (hvF T.2 b T.1) ≤ 64
      · exact Or.inl ⟨c, rfl⟩
      · exact Or.inr ⟨by omega, by omega, by omega⟩
    | succ m ih =>
      intro i M hi hX hn hF
      have h1 : M 39 1 = (T.1 : Int) := by rw [hF 39 (by omega) (by omega)]; exact hT.1
      have h3 : M r 1 = (nd (hvF T.2 b i) : Int) := hX.1
      have hb := hT.2.2 i (by omega)
      have e40 : M 40 i = T.2 i := by rw [hF 40 (by omega) (by omega)]; exact hb.1
      have hdi := hD i (by omega)
      have hnn := dgC_nn (T.2 i)
      refine run 60 [7] _ _ _ _ ?_
      refine And.intro rfl ?_
      refine And.intro ⟨⟨by omega, by omega⟩, ⟨by omega, by omega⟩⟩ (And.intro (fun c1 => absurd c1 (by omega)) (fun _ => ?_))
      refine And.intro hr.kd ?_
      conv => whnf
      rw [h3]
      refine And.intro ⟨⟨by omega, by omega⟩, ⟨by omega, by omega⟩⟩ (And.intro (fun c1 => ?_) (fun c2 => ?_))
      · refine Or.inl ⟨hvF T.2 b i, hX, Or.inr ⟨by omega, by omega, ?_⟩, hF⟩
        have := nd_mono (hvF_mono (tp := T.2) (b := b) (by omega) i (T.1 - i))
        rw [show i + (T.1 - i) = T.1 by omega] at this
        omega
      refine And.intro rfl (And.intro ⟨rfl, by omega, by omega⟩ ?_)
      conv => whnf
      rw [Int.toNat_natCast, e40]
      refine ⟨(T.2 i, 0), ⟨rfl, ⟨by omega, by omega⟩⟩, ?_⟩
      rintro x M ⟨hx, rfl⟩
      obtain ⟨d, ed⟩ : ∃ d : Nat, dgC (T.2 i) = (d : Int) := ⟨(dgC (T.2 i)).toNat, by omega⟩
      rw [show x = (d : Int) by omega]
      have ehv : hvF T.2 b (i + 1) = hvF T.2 b i * b + d := by rw [hvF, ed, Int.toNat_natCast]
      refine And.intro hr.kd ⟨(r, b, d, hvF T.2 b i), ⟨rfl, hr, hb1, hb2, by omega, hX, by omega⟩, ?_⟩
      rintro M1 ⟨hX1, hF1⟩
      rw [← ehv] at hX1
      refine And.intro ?_ trivial
      rw [show (i : Int) + 1 = ((i + 1 : Nat) : Int) by omega]
      refine ih (i + 1) M1 (by omega) hX1 ?_ (hF.tr hF1)
      rw [ehv]
      exact nd_le.mpr (mulp_lt (m := 64) (by omega) (by omega) (by omega))
  change aw 0 [some (.inr (.inr 39)), some (.inr (.inr r)), some (.inl (b : Int)), none] [] M0
  refine run 60 [7] _ _ _ _ ?_
  refine And.intro hr.kd ⟨(r, 0, 0), ⟨rfl, hr, by omega, by decide, fun i hi => by omega⟩, ?_⟩
  rintro M1 rfl
  refine And.intro ?_ trivial
  refine loop T.1 0 _ (by omega) (XR.fix (k := 0) (fun i hi => by omega) (by decide)) ?_ FrX.len
  show nd 0 ≤ 65
  rw [nd_0]
  omega
theorem imX6_readNumber {l : Launch} {Z : ZT} (hZ : ZOk Z) : Impl l Z yX6_readNumber cX6_readNumber 4 none 2 c_readT := mkImpl (rt := 0) (CL := [(23, some 5, c_trim), (19, none, c_digX), (32, some 5, c_timesPlus)]) hZ.1 hZ.2.1 (by decide +kernel) kX6_readNumber fwX6 iwX6 lwX6 trivial (Nat.le_of_ble_eq_true rfl) (List.forall_mem_cons.mpr ⟨gX6_23 hZ (by decide), List.forall_mem_cons.mpr ⟨gX6_19 hZ (by decide), List.forall_mem_cons.mpr ⟨gX6_32 hZ (by decide), fun q h => absurd h List.not_mem_nil⟩⟩⟩) ((v_readT _))
theorem gX7_250 {l : Launch} {Z : ZT} (hZ : ZOk Z) {d : Nat} (hd : 3 ≤ d) : CallI l Z RX7 d (250, some 6, c_readT) := fun p e s m args below meth c Q cc nL x0 X => callOk_V X (imX6_readNumber hZ) (by decide) rfl mlX7_250 iw_yX6_readNumber vw_yX6_readNumber nw_RX6 cw_yX6_readNumber ⟨by decide +kernel, by decide +kernel, by decide +kernel⟩ ⟨hd, by decide⟩
/-- the digits that were written -/
def XO (M : Mem) (O : OS) : Prop := M 41 1 = (O.1 : Int) ∧ O.1 ≤ 960 ∧ ∀ i, i < O.1 → M 42 (O.1 - 1 - i) = O.2 i
theorem XO.fr {M M' : Mem} {O : OS} (h : XO M O) (e1 : M' 41 = M 41) (e2 : M' 42 = M 42) : XO M' O := by
  unfold XO at *
  rw [e1, e2]
  exact h
def c_charX : Call := ⟨Nat × Nat, 1, (fun (d, _) vs _ => vs = [.inl (d : Int)] ∧ d < 36), .inr (fun (d, _) _ M x M' => x = chB d ∧ M' = M)⟩
theorem v_charX (n : Nn) : Ver tX3_characterOf (fdX3, icX3, lcX3, []) 1 1 n c_charX := by
  rintro ⟨d, z⟩ vs M0 ⟨rfl, hd⟩ aw run
  change aw 0 [some (.inl (d : Int))] [] M0
  refine run 60 [] _ _ _ _ ?_
  refine And.intro ⟨⟨by omega, by omega⟩, ⟨by omega, by omega⟩⟩ (And.intro (fun c1 => ?_) (fun c2 => ?_))
  · refine Or.inl ⟨?_, rfl⟩
    show 97 + (d : Int) - 10 = chB d
    unfold chB
    rw [if_neg (by omega)]
  · refine Or.inl ⟨?_, rfl⟩
    show 48 + (d : Int) = chB d
    unfold chB
    rw [if_pos (by omega)]
theorem imX3_characterOf {l : Launch} {Z : ZT} (hZ : ZOk Z) : Impl l Z yX3_characterOf cX3_characterOf 1 (some .int) 1 c_charX := mkImpl (rt := 1) (CL := []) hZ.1 hZ.2.1 (by decide +kernel) kX3_characterOf fwX3 iwX3 lwX3 trivial (Nat.le_of_ble_eq_true rfl) (fun q h => absurd h List.not_mem_nil) ((v_charX _))
theorem gX3_25 {l : Launch} {Z : ZT} (hZ : ZOk Z) {d : Nat} (hd : 2 ≤ d) : CallI l Z RX3 d (25, none, c_charX) := fun p e s m args below meth c Q cc nL x0 X => callOk_S X (imX3_characterOf hZ) mlX3_25 sw_yX3_characterOf nw_RX3 cw_yX3_characterOf ⟨by decide +kernel, by decide +kernel, by decide +kernel⟩ ⟨hd, by decide⟩
def c_wrD : Call := ⟨Nat × Nat × Nat, 3, (fun (r, b, v) vs M => vs = [.inr (.inr 41), .inr (.inr r), .inl (b : Int)] ∧ isRw r ∧ 2 ≤ b ∧ b ≤ 36 ∧ XR M r v ∧ nd v ≤ 64), .inl (fun (r, b, v) _ M M' => XO M' (tcB b v, fun i => chB (v / b ^ (tcB b v - 1 - i) % b)) ∧ ∀ o, o ≠ r → o ≠ r + 1 → o ≠ 41 → o ≠ 42 → M' o = M o)⟩
theorem v_wrD (n : Nn) : Ver tX3_write (fdX3, icX3, lcX3, [(19, some 5, c_divideBy), (25, none, c_charX)]) 0 3 n c_wrD := by
  rintro ⟨r, b, v⟩ vs M0 ⟨rfl, hr, hb1, hb2, hX0, hn⟩ aw run
  have l42 : lnF n 42 = 960 := rfl
  have hv : v < 2 ^ (959 + 1) := by
    have := nd_lt v
    rw [nn_pw] at this
    exact Nat.lt_of_lt_of_le this (Nat.pow_le_pow_right (by decide) (by omega))
  have ht := tcB_le hb1 959 v hv
  clear hv
  have loop : ∀ (m k : Nat) (M : Mem), tcB b (v / b ^ k) = m → k + m = tcB b v → XR M r (v / b ^ k) → M 41 1 = (k : Int) → (∀ j, j < k → M 42 j = chB (v / b ^ j % b)) → (∀ o, o ≠ r → o ≠ r + 1 → o ≠ 41 → o ≠ 42 → M o = M0 o) → aw 5 [some (.inr (.inr 41)), some (.inr (.inr r)), some (.inl (b : Int))] [] M := by
    intro m
    induction m with
    | zero =>
      intro k M hm
      have := tcB_pos (b := b) (v := v / b ^ k)
      omega
    | succ m ih =>
      intro k M hm hk hX hc hD hF
      have nk : nd (v / b ^ k) ≤ nd v := nd_mono (Nat.div_le_self _ _)
      have ed : v / b ^ k / b = v / b ^ (k + 1) := by rw [Nat.div_div_eq_div_mul, Nat.pow_succ]
      have hml := Nat.mod_lt (v / b ^ k) (show 0 < b by omega)
      refine run 60 [5] _ _ _ _ ?_
      refine And.intro rfl (And.intro rfl (And.intro hr.kd ⟨(r, b, v / b ^ k), ⟨rfl, hr, hb1, hb2, hX, by omega⟩, ?_⟩))
      rintro x M1 ⟨rfl, hX1, hF1⟩
      rw [ed] at hX1
      refine ⟨(v / b ^ k % b, 0), ⟨rfl, by omega⟩, ?_⟩
      rintro x M1 ⟨rfl, rfl⟩
      have c1 : M1 41 1 = (k : Int) := by rw [hF1 41 (by omega) (by omega)]; exact hc
      refine And.intro ⟨rfl, by omega, by omega⟩ (And.intro rfl (And.intro rfl (And.intro hr.kd ?_)))
      conv => whnf
      rw [hc, Int.toNat_natCast, up2_i (show 41 ≠ 42 by decide), c1]
      obtain ⟨M2, eM2⟩ : ∃ M2, M2 = up2 (up2 M1 42 k (chB (v / b ^ k % b))) 41 1 ((k : Int) + 1) := ⟨_, rfl⟩
      rw [← eM2]
      have f2 : ∀ o, o ≠ 41 → o ≠ 42 → M2 o = M1 o := fun o p q => by rw [eM2, up2_i p, up2_i q]
      have hX2 : XR M2 r (v / b ^ (k + 1)) := by
        unfold XR
        rw [f2 r (by omega) (by omega), f2 (r + 1) (by omega) (by omega)]
        exact hX1
      have h3 : M2 r 1 = (nd (v / b ^ (k + 1)) : Int) := hX2.1
      have nk1 : nd (v / b ^ (k + 1)) ≤ nd v := nd_mono (Nat.div_le_self _ _)
      have c2 : M2 41 1 = ((k + 1 : Nat) : Int) := by rw [eM2, up2_s]; omega
      have hD2 : ∀ j, j < k + 1 → M2 42 j = chB (v / b ^ j % b) := by
        intro j hj
        rw [eM2, up2_i (by decide)]
        by_cases c : j = k
        · rw [c, up2_s]
        · rw [up2_k c, hF1 42 (by omega) (by omega)]
          exact hD j (by omega)
      have hF2 : ∀ o, o ≠ r → o ≠ r + 1 → o ≠ 41 → o ≠ 42 → M2 o = M0 o := fun o p q s t => by rw [f2 o s t, hF1 o p q]; exact hF o p q s t
      rw [h3]
      by_cases c : v / b ^ (k + 1) = 0
      · have e1 : tcB b (v / b ^ k) = 1 := tcB_1 (by rw [ed]; exact c)
        have m0 : m = 0 := by omega
        rw [c, nd_0]
        refine And.intro ⟨⟨by omega, by omega⟩, ⟨by omega, by omega⟩⟩ (And.intro (fun _ => ?_) (fun c2 => absurd c2 (by omega)))
        refine Or.inl ⟨⟨by rw [c2]; show ((k + 1 : Nat) : Int) = (tcB b v : Int); omega, by show tcB b v ≤ 960; omega, fun i hi => ?_⟩, hF2⟩
        exact hD2 (tcB b v - 1 - i) (by omega)
      · have e1 : tcB b (v / b ^ k) = tcB b (v / b ^ (k + 1)) + 1 := by rw [tcB_s hb1 (by rw [ed]; exact c), ed]
        have np : nd (v / b ^ (k + 1)) ≠ 0 := fun z => c (nd_z.mp z)
        have tp := tcB_pos (b := b) (v := v / b ^ (k + 1))
        refine And.intro ⟨⟨by omega, by omega⟩, ⟨by omega, by omega⟩⟩ (And.intro (fun c1 => absurd c1 (by omega)) (fun _ => ?_))
        refine And.intro rfl (And.intro rfl (And.intro rfl ?_))
        refine And.intro ⟨⟨by omega, by omega⟩, ⟨by omega, by omega⟩⟩ (And.intro (fun _ => ?_) (fun c2 => absurd c2 (by omega)))
        refine And.intro ?_ trivial
        exact ih (k + 1) M2 (by omega) (by omega) hX2 c2 hD2 hF2
  change aw 0 [some (.inr (.inr 41)), some (.inr (.inr r)), some (.inl (b : Int))] [] M0
  refine run 60 [5] _ _ _ _ ?_
  refine And.intro rfl (And.intro ?_ trivial)
  refine loop (tcB b v) 0 _ (by rw [Nat.pow_zero, Nat.div_one]) (by omega) ?_ up2_s (fun j hj => by omega) (fun o _ _ p _ => up2_i p)
  rw [Nat.pow_zero, Nat.div_one]
  unfold XR
  rw [up2_i (by omega), up2_i (by omega)]
  exact hX0
theorem imX3_write {l : Launch} {Z : ZT} (hZ : ZOk Z) : Impl l Z yX3_write cX3_write 3 none 3 c_wrD := mkImpl (rt := 0) (CL := [(19, some 5, c_divideBy), (25, none, c_charX)]) hZ.1 hZ.2.1 (by decide +kernel) kX3_write fwX3 iwX3 lwX3 trivial (Nat.le_of_ble_eq_true rfl) (List.forall_mem_cons.mpr ⟨gX3_19 hZ (by decide), List.forall_mem_cons.mpr ⟨gX3_25 hZ (by decide), fun q h => absurd h List.not_mem_nil⟩⟩) ((v_wrD _))
theorem gX7_254 {l : Launch} {Z : ZT} (hZ : ZOk Z) {d : Nat} (hd : 4 ≤ d) : CallI l Z RX7 d (254, some 3, c_wrD) := fun p e s m args below meth c Q cc nL x0 X => callOk_V X (imX3_write hZ) (by decide) rfl mlX7_254 iw_yX3_write vw_yX3_write nw_RX3 cw_yX3_write ⟨by decide +kernel, by decide +kernel, by decide +kernel⟩ ⟨hd, by decide⟩
def c_bytA : Call := ⟨OS × Int, 2, (fun (O, i) vs M => vs = [.inr (.inr 41), .inl i] ∧ inR i ∧ XO M O), .inr (fun (O, i) _ M x M' => x = (if 0 ≤ i ∧ i < (O.1 : Int) then O.2 i.toNat else -1) ∧ M' = M)⟩
theorem v_bytA (n : Nn) : Ver tX3_byteAt (fdX3, icX3, lcX3, []) 1 2 n c_bytA := by
  rintro ⟨O, i⟩ vs M0 ⟨rfl, hi, hO⟩ aw run
  have l42 : lnF n 42 = 960 := rfl
  have h1 := hO.1
  have h2 := hO.2.1
  unfold inR at hi
  change aw 0 [some (.inr (.inr 41)), some (.inl i)] [] M0
  refine run 60 [] _ _ _ _ ?_
  refine And.intro ⟨⟨by omega, by omega⟩, ⟨by omega, by omega⟩⟩ (And.intro (fun c1 => ?_) (fun c2 => ?_))
  · refine Or.inl ⟨?_, rfl⟩
    show -1 = _
    rw [if_neg (by omega)]
  refine And.intro rfl ?_
  refine And.intro ⟨⟨by omega, by omega⟩, ⟨by omega, by omega⟩⟩ (And.intro (fun c1 => ?_) (fun c2 => ?_))
  · refine Or.inl ⟨?_, rfl⟩
    show -1 = _
    rw [if_neg (by omega)]
  refine And.intro rfl (And.intro rfl (And.intro ⟨rfl, by omega, by omega⟩ (Or.inl ⟨?_, rfl⟩)))
  show M0 42 (M0 41 1 - 1 - i).toNat = _
  rw [if_pos (by omega), ← hO.2.2 i.toNat (by omega)]
  congr 1
  omega
theorem imX3_byteAt {l : Launch} {Z : ZT} (hZ : ZOk Z) : Impl l Z yX3_byteAt cX3_byteAt 2 (some .int) 1 c_bytA := mkImpl (rt := 1) (CL := []) hZ.1 hZ.2.1 (by decide +kernel) kX3_byteAt fwX3 iwX3 lwX3 trivial (Nat.le_of_ble_eq_true rfl) (fun q h => absurd h List.not_mem_nil) ((v_bytA _))
theorem gX7_258 {l : Launch} {Z : ZT} (hZ : ZOk Z) {d : Nat} (hd : 2 ≤ d) : CallI l Z RX7 d (258, some 3, c_bytA) := fun p e s m args below meth c Q cc nL x0 X => callOk_V X (imX3_byteAt hZ) (by decide) rfl mlX7_258 iw_yX3_byteAt vw_yX3_byteAt nw_RX3 cw_yX3_byteAt ⟨by decide +kernel, by decide +kernel, by decide +kernel⟩ ⟨hd, by decide⟩
