/-! ===== the class: rows ===== -/
abbrev isRw (r : Nat) : Prop := 7 ≤ r ∧ r ≤ 37 ∧ r % 2 = 1
theorem rw_all : ∀ r, r < 38 → 7 ≤ r → r % 2 = 1 → kdF r = 5 ∧ kdF (r + 1) = 100 := by decide
theorem isRw.kd {r : Nat} (h : isRw r) : kdF r = 5 := (rw_all r (by omega) h.1 h.2.2).1
theorem isRw.ka {r : Nat} (h : isRw r) : kdF (r + 1) = 100 := (rw_all r (by omega) h.1 h.2.2).2
theorem isRw.ln {r : Nat} (h : isRw r) (n : Nn) : lnF n (r + 1) = 130 := by
  obtain ⟨h1, h2, h3⟩ := h
  rcases (show r = 7 ∨ r = 9 ∨ r = 11 ∨ r = 13 ∨ r = 15 ∨ r = 17 ∨ r = 19 ∨ r = 21 ∨ r = 23 ∨ r = 25 ∨ r = 27 ∨ r = 29 ∨ r = 31 ∨ r = 33 ∨ r = 35 ∨ r = 37 by omega) with rfl | rfl | rfl | rfl | rfl | rfl | rfl | rfl | rfl | rfl | rfl | rfl | rfl | rfl | rfl | rfl <;> rfl
/-- row r of the class holds v -/
def XR (M : Mem) (r v : Nat) : Prop := Hd (fun i => M (r + 1) i) (M r 1) v
def FrX (M M' : Mem) (r : Nat) : Prop := ∀ o, o ≠ r → o ≠ r + 1 → M' o = M o
theorem FrX.rf (M : Mem) (r : Nat) : FrX M M r := fun _ _ _ => rfl
theorem FrX.tr {M M1 M2 : Mem} {r : Nat} (h : FrX M M1 r) (h2 : FrX M1 M2 r) : FrX M M2 r := fun o a b => (h2 o a b).trans (h o a b)
theorem FrX.keep {M M' : Mem} {r s v : Nat} (h : FrX M M' r) (hr : isRw r) (hs : isRw s) (hne : s ≠ r) (hv : XR M s v) : XR M' s v := by
  unfold XR at *
  rw [h s hne (by omega), h (s + 1) (by omega) (by omega)]
  exact hv
theorem FrX.len {M : Mem} {r k : Nat} {x : Int} : FrX M (up2 M r k x) r := fun o a _ => up2_i a
theorem FrX.put {M : Mem} {r k : Nat} {x : Int} : FrX M (up2 M (r + 1) k x) r := fun o _ b => up2_i b
theorem up2_up2 {M : Mem} {o k : Nat} {x y : Int} : up2 (up2 M o k x) o k y = up2 M o k y := by
  funext i j
  by_cases c : i = o
  · subst c
    by_cases d : j = k
    · subst d
      rw [up2_s, up2_s]
    · rw [up2_k d, up2_k d, up2_k d]
  · rw [up2_i c, up2_i c, up2_i c]
theorem XR.fix {M : Mem} {r v k : Nat} (h : ∀ i, i < k → M (r + 1) i = (dg v i : Int)) (hv : v < 32768 ^ k) : XR (up2 M r 1 (nd v : Int)) r v := by
  have hn : nd v ≤ k := nd_le.mpr hv
  refine ⟨up2_s, fun i hi => ?_⟩
  show up2 M r 1 (nd v : Int) (r + 1) i = _
  rw [up2_i (by omega)]
  exact h i (by omega)
def c_max : Call := ⟨Int × Int, 2, (fun (a, b) vs _ => vs = [.inl a, .inl b] ∧ inR a ∧ inR b), .inr (fun (a, b) _ M x M' => x = max a b ∧ M' = M)⟩
theorem v_max (n : Nn) : Ver tJ9_max_7cf53 (fdJ9, icJ9, lcJ9, []) 1 2 n c_max := by
  rintro ⟨a, b⟩ vs M0 ⟨rfl, ha, hb⟩ aw run
  unfold inR at ha hb
  change aw 0 [some (.inl a), some (.inl b)] [] M0
  refine run 20 [] _ _ _ _ ?_
  refine And.intro ⟨⟨by omega, by omega⟩, ⟨by omega, by omega⟩⟩ (And.intro (fun c1 => ?_) (fun c2 => ?_))
  · exact Or.inl ⟨by omega, rfl⟩
  · exact Or.inl ⟨by omega, rfl⟩
theorem imJ9_max_7cf53 {l : Launch} {Z : ZT} (hZ : ZOk Z) : Impl l Z yJ9_max_7cf53 cJ9_max_7cf53 2 (some .int) 1 c_max := mkImplF (rt := 1) (CL := []) hZ.1 hZ.2.1 (by decide +kernel) kJ9_max_7cf53 fwJ9 iwJ9 lwJ9 trivial (Nat.le_of_ble_eq_true rfl) (fun q h => absurd h List.not_mem_nil) ((v_max _))
theorem gX0_44 {l : Launch} {Z : ZT} (hZ : ZOk Z) {d : Nat} (hd : 2 ≤ d) : CallI l Z RX0 d (44, none, c_max) := fun p e s m args below meth c Q cc nL x0 X => callOk_S X (imJ9_max_7cf53 hZ) mlX0_44 sw_yJ9_max_7cf53 nw_RJ9 cw_yJ9_max_7cf53 ⟨by decide +kernel, by decide +kernel, by decide +kernel⟩ ⟨hd, by decide⟩
theorem gX1_32 {l : Launch} {Z : ZT} (hZ : ZOk Z) {d : Nat} (hd : 2 ≤ d) : CallI l Z RX1 d (32, none, c_max) := fun p e s m args below meth c Q cc nL x0 X => callOk_S X (imJ9_max_7cf53 hZ) mlX1_32 sw_yJ9_max_7cf53 nw_RJ9 cw_yJ9_max_7cf53 ⟨by decide +kernel, by decide +kernel, by decide +kernel⟩ ⟨hd, by decide⟩
theorem gX2_79 {l : Launch} {Z : ZT} (hZ : ZOk Z) {d : Nat} (hd : 2 ≤ d) : CallI l Z RX2 d (79, none, c_max) := fun p e s m args below meth c Q cc nL x0 X => callOk_S X (imJ9_max_7cf53 hZ) mlX2_79 sw_yJ9_max_7cf53 nw_RJ9 cw_yJ9_max_7cf53 ⟨by decide +kernel, by decide +kernel, by decide +kernel⟩ ⟨hd, by decide⟩
theorem gX4_22 {l : Launch} {Z : ZT} (hZ : ZOk Z) {d : Nat} (hd : 2 ≤ d) : CallI l Z RX4 d (22, none, c_max) := fun p e s m args below meth c Q cc nL x0 X => callOk_S X (imJ9_max_7cf53 hZ) mlX4_22 sw_yJ9_max_7cf53 nw_RJ9 cw_yJ9_max_7cf53 ⟨by decide +kernel, by decide +kernel, by decide +kernel⟩ ⟨hd, by decide⟩
theorem gX7_82 {l : Launch} {Z : ZT} (hZ : ZOk Z) {d : Nat} (hd : 2 ≤ d) : CallI l Z RX7 d (82, none, c_max) := fun p e s m args below meth c Q cc nL x0 X => callOk_S X (imJ9_max_7cf53 hZ) mlX7_82 sw_yJ9_max_7cf53 nw_RJ9 cw_yJ9_max_7cf53 ⟨by decide +kernel, by decide +kernel, by decide +kernel⟩ ⟨hd, by decide⟩
def c_min : Call := ⟨Int × Int, 2, (fun (a, b) vs _ => vs = [.inl a, .inl b] ∧ inR a ∧ inR b), .inr (fun (a, b) _ M x M' => x = min a b ∧ M' = M)⟩
theorem v_min (n : Nn) : Ver tJ9_min_7cf53 (fdJ9, icJ9, lcJ9, []) 1 2 n c_min := by
  rintro ⟨a, b⟩ vs M0 ⟨rfl, ha, hb⟩ aw run
  unfold inR at ha hb
  change aw 0 [some (.inl a), some (.inl b)] [] M0
  refine run 20 [] _ _ _ _ ?_
  refine And.intro ⟨⟨by omega, by omega⟩, ⟨by omega, by omega⟩⟩ (And.intro (fun c1 => ?_) (fun c2 => ?_))
  · exact Or.inl ⟨by omega, rfl⟩
  · exact Or.inl ⟨by omega, rfl⟩
theorem imJ9_min_7cf53 {l : Launch} {Z : ZT} (hZ : ZOk Z) : Impl l Z yJ9_min_7cf53 cJ9_min_7cf53 2 (some .int) 1 c_min := mkImplF (rt := 1) (CL := []) hZ.1 hZ.2.1 (by decide +kernel) kJ9_min_7cf53 fwJ9 iwJ9 lwJ9 trivial (Nat.le_of_ble_eq_true rfl) (fun q h => absurd h List.not_mem_nil) ((v_min _))
theorem gX0_58 {l : Launch} {Z : ZT} (hZ : ZOk Z) {d : Nat} (hd : 2 ≤ d) : CallI l Z RX0 d (58, none, c_min) := fun p e s m args below meth c Q cc nL x0 X => callOk_S X (imJ9_min_7cf53 hZ) mlX0_58 sw_yJ9_min_7cf53 nw_RJ9 cw_yJ9_min_7cf53 ⟨by decide +kernel, by decide +kernel, by decide +kernel⟩ ⟨hd, by decide⟩
theorem gX1_83 {l : Launch} {Z : ZT} (hZ : ZOk Z) {d : Nat} (hd : 2 ≤ d) : CallI l Z RX1 d (83, none, c_min) := fun p e s m args below meth c Q cc nL x0 X => callOk_S X (imJ9_min_7cf53 hZ) mlX1_83 sw_yJ9_min_7cf53 nw_RJ9 cw_yJ9_min_7cf53 ⟨by decide +kernel, by decide +kernel, by decide +kernel⟩ ⟨hd, by decide⟩
theorem gX2_47 {l : Launch} {Z : ZT} (hZ : ZOk Z) {d : Nat} (hd : 2 ≤ d) : CallI l Z RX2 d (47, none, c_min) := fun p e s m args below meth c Q cc nL x0 X => callOk_S X (imJ9_min_7cf53 hZ) mlX2_47 sw_yJ9_min_7cf53 nw_RJ9 cw_yJ9_min_7cf53 ⟨by decide +kernel, by decide +kernel, by decide +kernel⟩ ⟨hd, by decide⟩
theorem gX7_76 {l : Launch} {Z : ZT} (hZ : ZOk Z) {d : Nat} (hd : 2 ≤ d) : CallI l Z RX7 d (76, none, c_min) := fun p e s m args below meth c Q cc nL x0 X => callOk_S X (imJ9_min_7cf53 hZ) mlX7_76 sw_yJ9_min_7cf53 nw_RJ9 cw_yJ9_min_7cf53 ⟨by decide +kernel, by decide +kernel, by decide +kernel⟩ ⟨hd, by decide⟩
/-- limbAt(i) -/
def c_limbAt : Call := ⟨Nat × Int × Nat, 2, (fun (r, i, v) vs M => vs = [.inr (.inr r), .inl i] ∧ isRw r ∧ inR i ∧ XR M r v ∧ nd v ≤ 130), .inr (fun (_, i, v) _ M x M' => x = dgZ v i ∧ M' = M)⟩
theorem v_limbAt (n : Nn) : Ver tX5_limbAt (fdX5, icX5, lcX5, []) 1 2 n c_limbAt := by
  rintro ⟨r, i, v⟩ vs M0 ⟨rfl, hr, hi, hv, hn⟩ aw run
  have hl := hr.ln n
  unfold inR at hi
  have h1 : M0 r 1 = (nd v : Int) := hv.1
  change aw 0 [some (.inr (.inr r)), some (.inl i)] [] M0
  refine run 30 [] _ _ _ _ ?_
  refine And.intro ⟨⟨by omega, by omega⟩, ⟨by omega, by omega⟩⟩ (And.intro (fun c1 => ?_) (fun c2 => ?_))
  · exact Or.inl ⟨(dgZ_neg (by omega)).symm, rfl⟩
  refine And.intro hr.kd ?_
  refine And.intro ⟨⟨by omega, by omega⟩, ⟨by omega, by omega⟩⟩ (And.intro (fun c1 => ?_) (fun c2 => ?_))
  · refine Or.inl ⟨?_, rfl⟩
    unfold dgZ
    rw [if_neg (by omega), dg_z (by omega)]
    rfl
  refine And.intro hr.kd (And.intro ⟨hr.ka, by omega, by omega⟩ (Or.inl ⟨?_, rfl⟩))
  show M0 (r + 1) i.toNat = dgZ v i
  unfold dgZ
  rw [if_neg (by omega)]
  exact hv.2 i.toNat (by omega)
theorem imX5_limbAt {l : Launch} {Z : ZT} (hZ : ZOk Z) : Impl l Z yX5_limbAt cX5_limbAt 2 (some .int) 1 c_limbAt := mkImpl (rt := 1) (CL := []) hZ.1 hZ.2.1 (by decide +kernel) kX5_limbAt fwX5 iwX5 lwX5 trivial (Nat.le_of_ble_eq_true rfl) (fun q h => absurd h List.not_mem_nil) ((v_limbAt _))
theorem gX0_50 {l : Launch} {Z : ZT} (hZ : ZOk Z) {d : Nat} (hd : 2 ≤ d) : CallI l Z RX0 d (50, some 5, c_limbAt) := fun p e s m args below meth c Q cc nL x0 X => callOk_V X (imX5_limbAt hZ) (by decide) rfl mlX0_50 iw_yX5_limbAt vw_yX5_limbAt nw_RX5 cw_yX5_limbAt ⟨by decide +kernel, by decide +kernel, by decide +kernel⟩ ⟨hd, by decide⟩
theorem gX5_33 {l : Launch} {Z : ZT} (hZ : ZOk Z) {d : Nat} (hd : 2 ≤ d) : CallI l Z RX5 d (33, some 5, c_limbAt) := fun p e s m args below meth c Q cc nL x0 X => callOk_V X (imX5_limbAt hZ) (by decide) rfl mlX5_33 iw_yX5_limbAt vw_yX5_limbAt nw_RX5 cw_yX5_limbAt ⟨by decide +kernel, by decide +kernel, by decide +kernel⟩ ⟨hd, by decide⟩
/-- trim(k) -/
def c_trim : Call := ⟨Nat × Nat × Nat, 2, (fun (r, k, v) vs M => vs = [.inr (.inr r), .inl (k : Int)] ∧ isRw r ∧ k ≤ 130 ∧ v < 32768 ^ k ∧ ∀ i, i < k → M (r + 1) i = (dg v i : Int)), .inl (fun (r, _, v) _ M M' => M' = up2 M r 1 (nd v : Int))⟩
theorem v_trim (n : Nn) : Ver tX5_trim (fdX5, icX5, lcX5, []) 0 2 n c_trim := by
  rintro ⟨r, k, v⟩ vs M0 ⟨rfl, hr, hk, hv, hd⟩ aw run
  have hl := hr.ln n
  have loop : ∀ (j : Nat), j ≤ k → nd v ≤ j → aw 5 [some (.inr (.inr r)), some (.inl (k : Int))] [] (up2 M0 r 1 (j : Int)) := by
    intro j
    induction j with
    | zero =>
      intro _ hn
      have h0 : up2 M0 r 1 ((0 : Nat) : Int) r 1 = 0 := up2_s
      refine run 30 [5] _ _ _ _ ?_
      refine And.intro hr.kd ?_
      refine And.intro ⟨⟨by omega, by omega⟩, ⟨by omega, by omega⟩⟩ (And.intro (fun _ => ?_) (fun c2 => absurd c2 (by omega)))
      refine Or.inl ?_
      show up2 M0 r 1 ((0 : Nat) : Int) = up2 M0 r 1 (nd v : Int)
      rw [show nd v = 0 by omega]
    | succ j ih =>
      intro hj hn
      have h0 : up2 M0 r 1 ((j + 1 : Nat) : Int) r 1 = ((j + 1 : Nat) : Int) := up2_s
      have h1 : up2 M0 r 1 ((j + 1 : Nat) : Int) (r + 1) j = (dg v j : Int) := by rw [up2_i (by omega)]; exact hd j (by omega)
      have hg := dg_lt v j
      refine run 30 [5] _ _ _ _ ?_
      refine And.intro hr.kd ?_
      refine And.intro ⟨⟨by omega, by omega⟩, ⟨by omega, by omega⟩⟩ (And.intro (fun c1 => absurd c1 (by omega)) (fun _ => ?_))
      refine And.intro hr.kd (And.intro hr.kd (And.intro ⟨hr.ka, by omega, by omega⟩ ?_))
      conv => whnf
      rw [h0, show (((j + 1 : Nat) : Int) - 1).toNat = j by omega, h1]
      by_cases c : dg v j = 0
      · refine And.intro ⟨⟨by omega, by omega⟩, ⟨by omega, by omega⟩⟩ (And.intro (fun c1 => absurd c1 (by omega)) (fun _ => ?_))
        refine And.intro hr.kd (And.intro hr.kd (And.intro ?_ trivial))
        rw [h0, up2_up2, show ((j + 1 : Nat) : Int) - 1 = (j : Int) by omega]
        exact ih (by omega) (nd_dn (by omega) c)
      · refine And.intro ⟨⟨by omega, by omega⟩, ⟨by omega, by omega⟩⟩ (And.intro (fun _ => ?_) (fun c2 => absurd c2 (by omega)))
        refine Or.inl ?_
        show up2 M0 r 1 ((j + 1 : Nat) : Int) = up2 M0 r 1 (nd v : Int)
        rw [nd_up (by omega) c]
  change aw 0 [some (.inr (.inr r)), some (.inl (k : Int))] [] M0
  refine run 30 [5] _ _ _ _ ?_
  refine And.intro hr.kd (And.intro ?_ trivial)
  exact loop k (Nat.le_refl _) (nd_le.mpr hv)
theorem imX5_trim {l : Launch} {Z : ZT} (hZ : ZOk Z) : Impl l Z yX5_trim cX5_trim 2 none 1 c_trim := mkImpl (rt := 0) (CL := []) hZ.1 hZ.2.1 (by decide +kernel) kX5_trim fwX5 iwX5 lwX5 trivial (Nat.le_of_ble_eq_true rfl) (fun q h => absurd h List.not_mem_nil) ((v_trim _))
theorem gX0_54 {l : Launch} {Z : ZT} (hZ : ZOk Z) {d : Nat} (hd : 2 ≤ d) : CallI l Z RX0 d (54, some 5, c_trim) := fun p e s m args below meth c Q cc nL x0 X => callOk_V X (imX5_trim hZ) (by decide) rfl mlX0_54 iw_yX5_trim vw_yX5_trim nw_RX5 cw_yX5_trim ⟨by decide +kernel, by decide +kernel, by decide +kernel⟩ ⟨hd, by decide⟩
theorem gX2_109 {l : Launch} {Z : ZT} (hZ : ZOk Z) {d : Nat} (hd : 2 ≤ d) : CallI l Z RX2 d (109, some 5, c_trim) := fun p e s m args below meth c Q cc nL x0 X => callOk_V X (imX5_trim hZ) (by decide) rfl mlX2_109 iw_yX5_trim vw_yX5_trim nw_RX5 cw_yX5_trim ⟨by decide +kernel, by decide +kernel, by decide +kernel⟩ ⟨hd, by decide⟩
theorem gX5_25 {l : Launch} {Z : ZT} (hZ : ZOk Z) {d : Nat} (hd : 2 ≤ d) : CallI l Z RX5 d (25, some 5, c_trim) := fun p e s m args below meth c Q cc nL x0 X => callOk_V X (imX5_trim hZ) (by decide) rfl mlX5_25 iw_yX5_trim vw_yX5_trim nw_RX5 cw_yX5_trim ⟨by decide +kernel, by decide +kernel, by decide +kernel⟩ ⟨hd, by decide⟩
theorem gX6_23 {l : Launch} {Z : ZT} (hZ : ZOk Z) {d : Nat} (hd : 2 ≤ d) : CallI l Z RX6 d (23, some 5, c_trim) := fun p e s m args below meth c Q cc nL x0 X => callOk_V X (imX5_trim hZ) (by decide) rfl mlX6_23 iw_yX5_trim vw_yX5_trim nw_RX5 cw_yX5_trim ⟨by decide +kernel, by decide +kernel, by decide +kernel⟩ ⟨hd, by decide⟩
theorem gX7_93 {l : Launch} {Z : ZT} (hZ : ZOk Z) {d : Nat} (hd : 2 ≤ d) : CallI l Z RX7 d (93, some 5, c_trim) := fun p e s m args below meth c Q cc nL x0 X => callOk_V X (imX5_trim hZ) (by decide) rfl mlX7_93 iw_yX5_trim vw_yX5_trim nw_RX5 cw_yX5_trim ⟨by decide +kernel, by decide +kernel, by decide +kernel⟩ ⟨hd, by decide⟩
theorem cpy_in {f g : Nat → Int} {sp dp k i : Nat} (h1 : dp ≤ i) (h2 : i < dp + k) : va_cpy f g sp dp k i = f (sp + (i - dp)) := by
  unfold va_cpy
  rw [if_pos (by omega)]
theorem cpy_out {f g : Nat → Int} {sp dp k i : Nat} (h : i < dp ∨ dp + k ≤ i) : va_cpy f g sp dp k i = g i := by
  unfold va_cpy
  rw [if_neg (by omega)]
theorem cpy_at0 {f g : Nat → Int} {k : Int} {i : Nat} (h : (i : Int) < k) : va_cpy f g ((0 : Int)).toNat ((0 : Int)).toNat k.toNat i = f i := by
  have := cpy_in (f := f) (g := g) (sp := 0) (dp := 0) (k := k.toNat) (i := i) (Nat.zero_le _) (by omega)
  rw [Nat.zero_add, Nat.sub_zero] at this
  exact this
/-- copy(s) -/
def c_copyX : Call := ⟨Nat × Nat × Nat, 2, (fun (r, s, v) vs M => vs = [.inr (.inr r), .inr (.inr s)] ∧ isRw r ∧ isRw s ∧ r ≠ s ∧ XR M s v ∧ nd v ≤ 130), .inl (fun (r, _, v) _ M M' => XR M' r v ∧ FrX M M' r)⟩
theorem v_copyX (n : Nn) : Ver tX5_copy (fdX5, icX5, lcX5, [(19, none, cpC n)]) 0 2 n c_copyX := by
  rintro ⟨r, s, v⟩ vs M0 ⟨rfl, hr, hs, hne, hv, hn⟩ aw run
  have hlr := hr.ln n
  have hls := hs.ln n
  have h1 : M0 s 1 = (nd v : Int) := hv.1
  change aw 0 [some (.inr (.inr r)), some (.inr (.inr s))] [] M0
  refine run 30 [] _ _ _ _ ?_
  refine And.intro hs.kd (And.intro hr.kd (And.intro hs.kd ⟨(), ⟨hs.ka, hr.ka, by omega, by omega, by omega, by omega, by omega⟩, ?_⟩))
  rintro M1 hM
  change M1 = va_up M0 (r + 1) (va_cpy (M0 (s + 1)) (M0 (r + 1)) ((0 : Int)).toNat ((0 : Int)).toNat (M0 s 1).toNat) at hM
  have k1 : M1 s 1 = (nd v : Int) := by
    rw [hM, va_up_ne _ _ (by omega)]
    exact h1
  refine And.intro hs.kd (And.intro hr.kd (Or.inl ?_))
  show XR (up2 M1 r 1 (M1 s 1)) r v ∧ FrX M0 (up2 M1 r 1 (M1 s 1)) r
  rw [k1]
  refine ⟨⟨up2_s, fun i hi => ?_⟩, fun o a b => ?_⟩
  · show up2 M1 r 1 (nd v : Int) (r + 1) i = _
    rw [up2_i (by omega), hM, va_up_self, h1, cpy_at0 (by omega)]
    exact hv.2 i hi
  · rw [up2_i a, hM, va_up_ne _ _ b]
theorem imX5_copy {l : Launch} {Z : ZT} (hZ : ZOk Z) : Impl l Z yX5_copy cX5_copy 2 none 2 c_copyX := mkImpl (rt := 0) (CL := [(19, none, cpC (zN Z))]) hZ.1 hZ.2.1 (by decide +kernel) kX5_copy fwX5 iwX5 lwX5 trivial (Nat.le_of_ble_eq_true rfl) (List.forall_mem_cons.mpr ⟨gcp_X5 hZ (by decide), fun q h => absurd h List.not_mem_nil⟩) ((v_copyX (zN Z)))
theorem gX0_71 {l : Launch} {Z : ZT} (hZ : ZOk Z) {d : Nat} (hd : 3 ≤ d) : CallI l Z RX0 d (71, some 5, c_copyX) := fun p e s m args below meth c Q cc nL x0 X => callOk_V X (imX5_copy hZ) (by decide) rfl mlX0_71 iw_yX5_copy vw_yX5_copy nw_RX5 cw_yX5_copy ⟨by decide +kernel, by decide +kernel, by decide +kernel⟩ ⟨hd, by decide⟩
theorem gX2_115 {l : Launch} {Z : ZT} (hZ : ZOk Z) {d : Nat} (hd : 3 ≤ d) : CallI l Z RX2 d (115, some 5, c_copyX) := fun p e s m args below meth c Q cc nL x0 X => callOk_V X (imX5_copy hZ) (by decide) rfl mlX2_115 iw_yX5_copy vw_yX5_copy nw_RX5 cw_yX5_copy ⟨by decide +kernel, by decide +kernel, by decide +kernel⟩ ⟨hd, by decide⟩
/-- become(x) -/
def c_become : Call := ⟨Nat × Nat, 2, (fun (r, v) vs _ => vs = [.inr (.inr r), .inl (v : Int)] ∧ isRw r ∧ v < 32768), .inl (fun (r, v) _ M M' => XR M' r v ∧ FrX M M' r)⟩
theorem v_become (n : Nn) : Ver tX5_become (fdX5, icX5, lcX5, [(25, some 5, c_trim)]) 0 2 n c_become := by
  rintro ⟨r, v⟩ vs M0 ⟨rfl, hr, hv⟩ aw run
  have hl := hr.ln n
  change aw 0 [some (.inr (.inr r)), some (.inl (v : Int))] [] M0
  refine run 30 [] _ _ _ _ ?_
  have hd : ∀ i, i < 1 → up2 M0 (r + 1) 0 (v : Int) (r + 1) i = (dg v i : Int) := by
    intro i hi
    obtain rfl : i = 0 := by omega
    rw [up2_s, dg_0, Nat.mod_eq_of_lt hv]
  have hv1 : v < 32768 ^ 1 := by rw [Nat.pow_one]; exact hv
  refine And.intro hr.kd (And.intro ⟨hr.ka, by omega, by omega⟩ (And.intro hr.kd ⟨(r, 1, v), ⟨rfl, hr, by omega, hv1, hd⟩, ?_⟩))
  rintro M1 rfl
  exact Or.inl ⟨XR.fix hd hv1, FrX.put.tr FrX.len⟩
theorem imX5_become {l : Launch} {Z : ZT} (hZ : ZOk Z) : Impl l Z yX5_become cX5_become 2 none 2 c_become := mkImpl (rt := 0) (CL := [(25, some 5, c_trim)]) hZ.1 hZ.2.1 (by decide +kernel) kX5_become fwX5 iwX5 lwX5 trivial (Nat.le_of_ble_eq_true rfl) (List.forall_mem_cons.mpr ⟨gX5_25 hZ (by decide), fun q h => absurd h List.not_mem_nil⟩) ((v_become _))
theorem gX0_99 {l : Launch} {Z : ZT} (hZ : ZOk Z) {d : Nat} (hd : 3 ≤ d) : CallI l Z RX0 d (99, some 5, c_become) := fun p e s m args below meth c Q cc nL x0 X => callOk_V X (imX5_become hZ) (by decide) rfl mlX0_99 iw_yX5_become vw_yX5_become nw_RX5 cw_yX5_become ⟨by decide +kernel, by decide +kernel, by decide +kernel⟩ ⟨hd, by decide⟩
theorem gX2_105 {l : Launch} {Z : ZT} (hZ : ZOk Z) {d : Nat} (hd : 3 ≤ d) : CallI l Z RX2 d (105, some 5, c_become) := fun p e s m args below meth c Q cc nL x0 X => callOk_V X (imX5_become hZ) (by decide) rfl mlX2_105 iw_yX5_become vw_yX5_become nw_RX5 cw_yX5_become ⟨by decide +kernel, by decide +kernel, by decide +kernel⟩ ⟨hd, by decide⟩
/-- isOne() -/
def c_isOneX : Call := ⟨Nat × Nat, 1, (fun (r, v) vs M => vs = [.inr (.inr r)] ∧ isRw r ∧ XR M r v ∧ nd v ≤ 130), .inr (fun (_, v) _ M x M' => ((x = 1 ∧ v = 1) ∨ (x = 0 ∧ v ≠ 1)) ∧ M' = M)⟩
theorem nd_one : nd 1 = 1 := by decide
theorem v_isOneX (n : Nn) : Ver tX5_isOne (fdX5, icX5, lcX5, []) 2 1 n c_isOneX := by
  rintro ⟨r, v⟩ vs M0 ⟨rfl, hr, hv, hn⟩ aw run
  have hl := hr.ln n
  have h1 : M0 r 1 = (nd v : Int) := hv.1
  change aw 0 [some (.inr (.inr r))] [] M0
  refine run 30 [] _ _ _ _ ?_
  refine And.intro hr.kd ?_
  by_cases c : nd v = 1
  rotate_left
  · refine And.intro ⟨⟨by omega, by omega⟩, ⟨by omega, by omega⟩⟩ (And.intro (fun _ => ?_) (fun c2 => absurd c2 (by omega)))
    exact And.intro (Or.inl rfl) (Or.inl ⟨Or.inr ⟨rfl, fun z => c (by rw [z]; exact nd_one)⟩, rfl⟩)
  refine And.intro ⟨⟨by omega, by omega⟩, ⟨by omega, by omega⟩⟩ (And.intro (fun c1 => absurd c1 (by omega)) (fun _ => ?_))
  have h2 : M0 (r + 1) 0 = (dg v 0 : Int) := hv.2 0 (by omega)
  have h3 : dg v 0 = v := by
    rw [dg_0]
    refine Nat.mod_eq_of_lt ?_
    have := nd_lt v
    rw [c, Nat.pow_one] at this
    exact this
  have hg := dg_lt v 0
  refine And.intro hr.kd (And.intro ⟨hr.ka, by omega, by omega⟩ ?_)
  conv => whnf
  rw [show ((0 : Int)).toNat = 0 from rfl, h2]
  by_cases c2 : v = 1
  · refine And.intro ⟨⟨by omega, by omega⟩, ⟨by omega, by omega⟩⟩ (And.intro (fun c1 => absurd c1 (by omega)) (fun _ => ?_))
    exact And.intro (Or.inr rfl) (Or.inl ⟨Or.inl ⟨rfl, c2⟩, rfl⟩)
  · refine And.intro ⟨⟨by omega, by omega⟩, ⟨by omega, by omega⟩⟩ (And.intro (fun _ => ?_) (fun c2 => absurd c2 (by omega)))
    exact And.intro (Or.inl rfl) (Or.inl ⟨Or.inr ⟨rfl, c2⟩, rfl⟩)
theorem imX5_isOne {l : Launch} {Z : ZT} (hZ : ZOk Z) : Impl l Z yX5_isOne cX5_isOne 1 (some .boolean) 1 c_isOneX := mkImpl (rt := 2) (CL := []) hZ.1 hZ.2.1 (by decide +kernel) kX5_isOne fwX5 iwX5 lwX5 trivial (Nat.le_of_ble_eq_true rfl) (fun q h => absurd h List.not_mem_nil) ((v_isOneX _))
theorem gX0_120 {l : Launch} {Z : ZT} (hZ : ZOk Z) {d : Nat} (hd : 2 ≤ d) : CallI l Z RX0 d (120, some 5, c_isOneX) := fun p e s m args below meth c Q cc nL x0 X => callOk_V X (imX5_isOne hZ) (by decide) rfl mlX0_120 iw_yX5_isOne vw_yX5_isOne nw_RX5 cw_yX5_isOne ⟨by decide +kernel, by decide +kernel, by decide +kernel⟩ ⟨hd, by decide⟩
theorem gX2_135 {l : Launch} {Z : ZT} (hZ : ZOk Z) {d : Nat} (hd : 2 ≤ d) : CallI l Z RX2 d (135, some 5, c_isOneX) := fun p e s m args below meth c Q cc nL x0 X => callOk_V X (imX5_isOne hZ) (by decide) rfl mlX2_135 iw_yX5_isOne vw_yX5_isOne nw_RX5 cw_yX5_isOne ⟨by decide +kernel, by decide +kernel, by decide +kernel⟩ ⟨hd, by decide⟩
/-- numberOfLeadingZeros of a limb -/
def c_nlz : Call := ⟨Nat × Nat, 1, (fun (v, _) vs _ => vs = [.inl (v : Int)] ∧ v < 32768), .inr (fun (v, _) _ M x M' => x = 32 - (nb v : Int) ∧ M' = M)⟩
theorem nb_3 {v : Nat} (h0 : v ≠ 0) (h : v < 4) : nb v = 1 + v / 2 := by
  rcases (show v = 1 ∨ v = 2 ∨ v = 3 by omega) with rfl | rfl | rfl <;> decide
theorem v_nlz (n : Nn) : Ver tJ6_numberOfLeadingZeros_0f7a4 (fdJ6, icJ6, lcJ6, []) 1 2 n c_nlz := by
  rintro ⟨v, z⟩ vs M0 ⟨rfl, hv⟩ aw run
  change aw 0 [some (.inl (v : Int)), none] [] M0
  -- the last steps: u is what is left, s bits were found below it
  have s73 : ∀ u s : Nat, u ≠ 0 → u < 4 → nb v = s + nb u → s ≤ 20 → aw 73 [some (.inl (u : Int)), some (.inl (31 - (s : Int)))] [] M0 := by
    intro u s h0 h4 he hs
    refine run 30 [] _ _ _ _ ?_
    refine And.intro ⟨⟨by omega, by omega⟩, by omega, by omega, by omega⟩ (Or.inl ⟨?_, rfl⟩)
    show 31 - (s : Int) - (u : Int) / 2 ^ ((1 : Int)).toNat = 32 - (nb v : Int)
    have := nb_3 h0 h4
    have e : (u : Int) / 2 ^ ((1 : Int)).toNat = ((u / 2 : Nat) : Int) := by simp
    rw [e]
    omega
  have s61 : ∀ u s : Nat, u ≠ 0 → u < 16 → nb v = s + nb u → s ≤ 18 → aw 61 [some (.inl (u : Int)), some (.inl (31 - (s : Int)))] [] M0 := by
    intro u s h0 h4 he hs
    refine run 30 [73] _ _ _ _ ?_
    by_cases c : u < 4
    · refine And.intro ⟨⟨by omega, by omega⟩, ⟨by omega, by omega⟩⟩ (And.intro (fun _ => ?_) (fun c2 => absurd c2 (by omega)))
      exact And.intro (s73 u s h0 c he (by omega)) trivial
    · refine And.intro ⟨⟨by omega, by omega⟩, ⟨by omega, by omega⟩⟩ (And.intro (fun c1 => absurd c1 (by omega)) (fun _ => ?_))
      refine And.intro ⟨⟨by omega, by omega⟩, by omega, by omega, by omega⟩ (And.intro ?_ trivial)
      have e : (u : Int) / 2 ^ ((2 : Int)).toNat = ((u / 2 ^ 2 : Nat) : Int) := by simp
      rw [e, show (31 - (s : Int)) + -2 = 31 - ((s + 2 : Nat) : Int) by omega]
      have hz : u / 2 ^ 2 ≠ 0 := by show u / 4 ≠ 0; omega
      exact s73 (u / 2 ^ 2) (s + 2) hz (by show u / 4 < 4; omega) (by rw [he, nb_div hz]; omega) (by omega)
  have s48 : ∀ u s : Nat, u ≠ 0 → u < 256 → nb v = s + nb u → s ≤ 10 → aw 48 [some (.inl (u : Int)), some (.inl (31 - (s : Int)))] [] M0 := by
    intro u s h0 h4 he hs
    refine run 30 [61] _ _ _ _ ?_
    by_cases c : u < 16
    · refine And.intro ⟨⟨by omega, by omega⟩, ⟨by omega, by omega⟩⟩ (And.intro (fun _ => ?_) (fun c2 => absurd c2 (by omega)))
      exact And.intro (s61 u s h0 c he (by omega)) trivial
    · refine And.intro ⟨⟨by omega, by omega⟩, ⟨by omega, by omega⟩⟩ (And.intro (fun c1 => absurd c1 (by omega)) (fun _ => ?_))
      refine And.intro ⟨⟨by omega, by omega⟩, by omega, by omega, by omega⟩ (And.intro ?_ trivial)
      have e : (u : Int) / 2 ^ ((4 : Int)).toNat = ((u / 2 ^ 4 : Nat) : Int) := by simp
      rw [e, show (31 - (s : Int)) + -4 = 31 - ((s + 4 : Nat) : Int) by omega]
      have hz : u / 2 ^ 4 ≠ 0 := by show u / 16 ≠ 0; omega
      exact s61 (u / 2 ^ 4) (s + 4) hz (by show u / 16 < 16; omega) (by rw [he, nb_div hz]; omega) (by omega)
  refine run 40 [48] _ _ _ _ ?_
  by_cases c0 : v = 0
  · subst c0
    refine And.intro ⟨⟨by omega, by omega⟩, ⟨by omega, by omega⟩⟩ (And.intro (fun c1 => absurd c1 (by omega)) (fun _ => ?_))
    refine And.intro ⟨⟨by omega, by omega⟩, ⟨by omega, by omega⟩⟩ (And.intro (fun c1 => absurd c1 (by omega)) (fun _ => ?_))
    exact Or.inl ⟨rfl, rfl⟩
  refine And.intro ⟨⟨by omega, by omega⟩, ⟨by omega, by omega⟩⟩ (And.intro (fun _ => ?_) (fun c2 => absurd c2 (by omega)))
  refine And.intro ⟨⟨by omega, by omega⟩, ⟨by omega, by omega⟩⟩ (And.intro (fun _ => ?_) (fun c2 => absurd c2 (by omega)))
  by_cases c : v < 256
  · refine And.intro ⟨⟨by omega, by omega⟩, ⟨by omega, by omega⟩⟩ (And.intro (fun _ => ?_) (fun c2 => absurd c2 (by omega)))
    exact And.intro (s48 v 0 c0 c (by omega) (by omega)) trivial
  · refine And.intro ⟨⟨by omega, by omega⟩, ⟨by omega, by omega⟩⟩ (And.intro (fun c1 => absurd c1 (by omega)) (fun _ => ?_))
    refine And.intro ⟨⟨by omega, by omega⟩, by omega, by omega, by omega⟩ (And.intro ?_ trivial)
    have e : (v : Int) / 2 ^ ((8 : Int)).toNat = ((v / 2 ^ 8 : Nat) : Int) := by simp
    rw [e, show (31 : Int) + -8 = 31 - ((8 : Nat) : Int) by omega]
    have hz : v / 2 ^ 8 ≠ 0 := by show v / 256 ≠ 0; omega
    exact s48 (v / 2 ^ 8) 8 hz (by show v / 256 < 256; omega) (nb_div hz) (by omega)
theorem imJ6_numberOfLeadingZeros_0f7a4 {l : Launch} {Z : ZT} (hZ : ZOk Z) : Impl l Z yJ6_numberOfLeadingZeros_0f7a4 cJ6_numberOfLeadingZeros_0f7a4 2 (some .int) 1 c_nlz := mkImplF (rt := 1) (CL := []) hZ.1 hZ.2.1 (by decide +kernel) kJ6_numberOfLeadingZeros_0f7a4 fwJ6 iwJ6 lwJ6 trivial (Nat.le_of_ble_eq_true rfl) (fun q h => absurd h List.not_mem_nil) ((v_nlz _))
theorem gX5_41 {l : Launch} {Z : ZT} (hZ : ZOk Z) {d : Nat} (hd : 2 ≤ d) : CallI l Z RX5 d (41, none, c_nlz) := fun p e s m args below meth c Q cc nL x0 X => callOk_S X (imJ6_numberOfLeadingZeros_0f7a4 hZ) mlX5_41 sw_yJ6_numberOfLeadingZeros_0f7a4 nw_RJ6 cw_yJ6_numberOfLeadingZeros_0f7a4 ⟨by decide +kernel, by decide +kernel, by decide +kernel⟩ ⟨hd, by decide⟩
def c_bitsOf : Call := ⟨Nat × Nat, 1, (fun (v, _) vs _ => vs = [.inl (v : Int)] ∧ v < 32768), .inr (fun (v, _) _ M x M' => x = (nb v : Int) ∧ M' = M)⟩
theorem v_bitsOf (n : Nn) : Ver tX5_bitsOf (fdX5, icX5, lcX5, [(41, none, c_nlz)]) 1 1 n c_bitsOf := by
  rintro ⟨v, z⟩ vs M0 ⟨rfl, hv⟩ aw run
  change aw 0 [some (.inl (v : Int))] [] M0
  refine run 30 [] _ _ _ _ ?_
  refine ⟨(v, 0), ⟨rfl, hv⟩, ?_⟩
  rintro x M0 ⟨rfl, rfl⟩
  refine Or.inl ⟨?_, rfl⟩
  show 32 - (32 - (nb v : Int)) = (nb v : Int)
  omega
theorem imX5_bitsOf {l : Launch} {Z : ZT} (hZ : ZOk Z) : Impl l Z yX5_bitsOf cX5_bitsOf 1 (some .int) 2 c_bitsOf := mkImpl (rt := 1) (CL := [(41, none, c_nlz)]) hZ.1 hZ.2.1 (by decide +kernel) kX5_bitsOf fwX5 iwX5 lwX5 trivial (Nat.le_of_ble_eq_true rfl) (List.forall_mem_cons.mpr ⟨gX5_41 hZ (by decide), fun q h => absurd h List.not_mem_nil⟩) ((v_bitsOf _))
theorem gX0_75 {l : Launch} {Z : ZT} (hZ : ZOk Z) {d : Nat} (hd : 3 ≤ d) : CallI l Z RX0 d (75, none, c_bitsOf) := fun p e s m args below meth c Q cc nL x0 X => callOk_S X (imX5_bitsOf hZ) mlX0_75 sw_yX5_bitsOf nw_RX5 cw_yX5_bitsOf ⟨by decide +kernel, by decide +kernel, by decide +kernel⟩ ⟨hd, by decide⟩
theorem gX5_29 {l : Launch} {Z : ZT} (hZ : ZOk Z) {d : Nat} (hd : 3 ≤ d) : CallI l Z RX5 d (29, none, c_bitsOf) := fun p e s m args below meth c Q cc nL x0 X => callOk_S X (imX5_bitsOf hZ) mlX5_29 sw_yX5_bitsOf nw_RX5 cw_yX5_bitsOf ⟨by decide +kernel, by decide +kernel, by decide +kernel⟩ ⟨hd, by decide⟩
def c_bitsX : Call := ⟨Nat × Nat, 1, (fun (r, v) vs M => vs = [.inr (.inr r)] ∧ isRw r ∧ XR M r v ∧ nd v ≤ 130), .inr (fun (_, v) _ M x M' => x = (nb v : Int) ∧ M' = M)⟩
theorem v_bitsX (n : Nn) : Ver tX5_bits (fdX5, icX5, lcX5, [(29, none, c_bitsOf)]) 1 1 n c_bitsX := by
  rintro ⟨r, v⟩ vs M0 ⟨rfl, hr, hv, hn⟩ aw run
  have hl := hr.ln n
  have h1 : M0 r 1 = (nd v : Int) := hv.1
  have hz := nd_z (v := v)
  change aw 0 [some (.inr (.inr r))] [] M0
  refine run 40 [] _ _ _ _ ?_
  refine And.intro hr.kd ?_
  by_cases c : v = 0
  · have := hz.mpr c
    refine And.intro ⟨⟨by omega, by omega⟩, ⟨by omega, by omega⟩⟩ (And.intro (fun c1 => absurd c1 (by omega)) (fun _ => ?_))
    refine Or.inl ⟨?_, rfl⟩
    show 0 = (nb v : Int)
    rw [c]
    rfl
  have c1 : nd v ≠ 0 := fun z => c (hz.mp z)
  refine And.intro ⟨⟨by omega, by omega⟩, ⟨by omega, by omega⟩⟩ (And.intro (fun _ => ?_) (fun c2 => absurd c2 (by omega)))
  have h2 : M0 (r + 1) (nd v - 1) = (dg v (nd v - 1) : Int) := hv.2 (nd v - 1) (by omega)
  have hg := dg_lt v (nd v - 1)
  refine And.intro hr.kd (And.intro hr.kd (And.intro hr.kd (And.intro ⟨hr.ka, by omega, by omega⟩ ?_)))
  conv => whnf
  rw [h1, show ((nd v : Int) - 1).toNat = nd v - 1 by omega, h2]
  refine ⟨(dg v (nd v - 1), 0), ⟨rfl, hg⟩, ?_⟩
  rintro x M0 ⟨rfl, rfl⟩
  refine Or.inl ⟨?_, rfl⟩
  show 15 * ((nd v : Int) - 1) + (nb (dg v (nd v - 1)) : Int) = (nb v : Int)
  have := nb_lim v c
  omega
theorem imX5_bits {l : Launch} {Z : ZT} (hZ : ZOk Z) : Impl l Z yX5_bits cX5_bits 1 (some .int) 3 c_bitsX := mkImpl (rt := 1) (CL := [(29, none, c_bitsOf)]) hZ.1 hZ.2.1 (by decide +kernel) kX5_bits fwX5 iwX5 lwX5 trivial (Nat.le_of_ble_eq_true rfl) (List.forall_mem_cons.mpr ⟨gX5_29 hZ (by decide), fun q h => absurd h List.not_mem_nil⟩) ((v_bitsX _))
theorem gX0_102 {l : Launch} {Z : ZT} (hZ : ZOk Z) {d : Nat} (hd : 4 ≤ d) : CallI l Z RX0 d (102, some 5, c_bitsX) := fun p e s m args below meth c Q cc nL x0 X => callOk_V X (imX5_bits hZ) (by decide) rfl mlX0_102 iw_yX5_bits vw_yX5_bits nw_RX5 cw_yX5_bits ⟨by decide +kernel, by decide +kernel, by decide +kernel⟩ ⟨hd, by decide⟩
theorem gX7_129 {l : Launch} {Z : ZT} (hZ : ZOk Z) {d : Nat} (hd : 4 ≤ d) : CallI l Z RX7 d (129, some 5, c_bitsX) := fun p e s m args below meth c Q cc nL x0 X => callOk_V X (imX5_bits hZ) (by decide) rfl mlX7_129 iw_yX5_bits vw_yX5_bits nw_RX5 cw_yX5_bits ⟨by decide +kernel, by decide +kernel, by decide +kernel⟩ ⟨hd, by decide⟩
def c_hasBit : Call := ⟨Nat × Nat × Nat, 2, (fun (r, i, v) vs M => vs = [.inr (.inr r), .inl (i : Int)] ∧ isRw r ∧ i < 100000 ∧ XR M r v ∧ nd v ≤ 130), .inr (fun (_, i, v) _ M x M' => ((x = 1 ∧ v / 2 ^ i % 2 = 1) ∨ (x = 0 ∧ v / 2 ^ i % 2 = 0)) ∧ M' = M)⟩
theorem v_hasBit (n : Nn) : Ver tX5_hasBit (fdX5, icX5, lcX5, [(33, some 5, c_limbAt)]) 2 2 n c_hasBit := by
  rintro ⟨r, i, v⟩ vs M0 ⟨rfl, hr, hi, hv, hn⟩ aw run
  change aw 0 [some (.inr (.inr r)), some (.inl (i : Int))] [] M0
  refine run 40 [] _ _ _ _ ?_
  refine And.intro ⟨by omega, by omega, ⟨by omega, by omega⟩, ⟨by omega, by omega⟩⟩ ?_
  conv => whnf
  rw [show (i : Int) / 15 = ((i / 15 : Nat) : Int) by omega]
  refine And.intro hr.kd ⟨(r, ((i / 15 : Nat) : Int), v), ⟨rfl, hr, ⟨by omega, by omega⟩, hv, hn⟩, ?_⟩
  rintro x M0 ⟨rfl, rfl⟩
  rw [dgZ_n]
  have hg := dg_lt v (i / 15)
  refine And.intro ⟨by omega, by omega, ⟨by omega, by omega⟩, ⟨by omega, by omega⟩⟩ (And.intro ⟨⟨by omega, by omega⟩, by omega, by omega⟩ ?_)
  conv => whnf
  have e1 : (dg v (i / 15) : Int) / 2 ^ ((i : Int) % 15).toNat = ((dg v (i / 15) / 2 ^ (i % 15) : Nat) : Int) := by
    rw [show ((i : Int) % 15).toNat = i % 15 by omega, Int.natCast_ediv]
    simp
  have e2 := bit_dg v i
  have hle : dg v (i / 15) / 2 ^ (i % 15) ≤ dg v (i / 15) := Nat.div_le_self _ _
  rw [e1]
  generalize dg v (i / 15) / 2 ^ (i % 15) = y at *
  refine And.intro ⟨by omega, by omega, ⟨by omega, by omega⟩, ⟨by omega, by omega⟩⟩ ?_
  refine And.intro ⟨⟨by omega, by omega⟩, ⟨by omega, by omega⟩⟩ (And.intro (fun c1 => ?_) (fun c2 => ?_))
  · exact And.intro (Or.inl rfl) (Or.inl ⟨Or.inr ⟨rfl, by omega⟩, rfl⟩)
  · exact And.intro (Or.inr rfl) (Or.inl ⟨Or.inl ⟨rfl, by omega⟩, rfl⟩)
theorem imX5_hasBit {l : Launch} {Z : ZT} (hZ : ZOk Z) : Impl l Z yX5_hasBit cX5_hasBit 2 (some .boolean) 2 c_hasBit := mkImpl (rt := 2) (CL := [(33, some 5, c_limbAt)]) hZ.1 hZ.2.1 (by decide +kernel) kX5_hasBit fwX5 iwX5 lwX5 trivial (Nat.le_of_ble_eq_true rfl) (List.forall_mem_cons.mpr ⟨gX5_33 hZ (by decide), fun q h => absurd h List.not_mem_nil⟩) ((v_hasBit _))
theorem gX0_106 {l : Launch} {Z : ZT} (hZ : ZOk Z) {d : Nat} (hd : 3 ≤ d) : CallI l Z RX0 d (106, some 5, c_hasBit) := fun p e s m args below meth c Q cc nL x0 X => callOk_V X (imX5_hasBit hZ) (by decide) rfl mlX0_106 iw_yX5_hasBit vw_yX5_hasBit nw_RX5 cw_yX5_hasBit ⟨by decide +kernel, by decide +kernel, by decide +kernel⟩ ⟨hd, by decide⟩
