/-! ===== both sides hold the same state, and each case of the law keeps it ===== -/
theorem inR_i (x : Int32) : inR x.toInt := by
  have h1 := Int32.minValue_le_toInt x
  have h9 : Int32.minValue.toInt = -2147483648 := by decide
  have h2 := Int32.toInt_lt x
  exact ⟨by omega, by omega⟩
def RAll (n : Nn) (M : Mem) (q : RS) (T : TS) (O : OS) (W : WS) (f : Int) : Prop := RN n M 0 q ∧ RT M T ∧ RO M O ∧ RW n M W ∧ M 50 16 = f
def XAll (n : Nn) (M : Mem) (q : RS) (T : TS) (O : OS) (W : WS) (f : Int) : Prop := XN n M 0 q ∧ XT M T ∧ XO M O ∧ XW n M W ∧ M 0 9 = f
def INV (n : Nn) (M : Mem) : Prop := ∃ q T O W f, XAll n M q T O W f ∧ RAll n M q T O W f
theorem RT.fr {M M' : Mem} {T : TS} (h : RT M T) (e1 : M' 50 14 = M 50 14) (e2 : M' 58 = M 58) : RT M' T := by
  unfold RT at *
  rw [e1, e2]
  exact h
theorem RO.fr {M M' : Mem} {O : OS} (h : RO M O) (e1 : M' 50 15 = M 50 15) (e2 : M' 59 = M 59) : RO M' O := by
  unfold RO at *
  rw [e1, e2]
  exact h
theorem RW.fr {n : Nn} {M M' : Mem} {W : WS} (h : RW n M W) (e1 : M' 50 18 = M 50 18) (e2 : M' 60 = M 60) (e3 : M' 50 2 = M 50 2) : RW n M' W := by
  unfold RW WB at *
  rw [e1, e2, e3]
  exact h
section ALL
variable {n : Nn} {M M' : Mem} {q q1 : RS} {T T1 : TS} {O O1 : OS} {W W1 : WS} {f f1 : Int}
theorem RAll.fr (h : RAll n M q T O W f) (e : ∀ o, 49 < o → M' o = M o) : RAll n M' q T O W f := by
  obtain ⟨h1, h2, h3, h4, h5⟩ := h
  have e50 := e 50 (by omega)
  exact ⟨h1.ag (fun o _ _ => e o (by omega)) (fun j _ => by rw [e50]), h2.fr (by rw [e50]) (e 58 (by omega)), h3.fr (by rw [e50]) (e 59 (by omega)), h4.fr (by rw [e50]) (e 60 (by omega)) (by rw [e50]), by rw [e50]; exact h5⟩
theorem XAll.fr (h : XAll n M q T O W f) (e : ∀ o, o < 50 → M' o = M o) : XAll n M' q T O W f := by
  obtain ⟨h1, h2, h3, h4, h5⟩ := h
  exact ⟨h1.fr (fun o _ _ => e o (by omega)), h2.fr (e 39 (by omega)) (e 40 (by omega)), h3.fr (e 41 (by omega)) (e 42 (by omega)), h4.fr (by rw [e 43 (by omega)]) (e 44 (by omega)), by rw [e 0 (by omega)]; exact h5⟩
theorem XAll.nn (h : XAll n M q T O W f) (h1 : XN n M' 0 q1) (e : FP M M') : XAll n M' q1 T O W f := by
  obtain ⟨-, h2, h3, h4, h5⟩ := h
  exact ⟨h1, h2.fr (e 39 (by omega)) (e 40 (by omega)), h3.fr (e 41 (by omega)) (e 42 (by omega)), h4.fr (by rw [e 43 (by omega)]) (e 44 (by omega)), by rw [e 0 (by omega)]; exact h5⟩
theorem XAll.t (h : XAll n M q T O W f) (h1 : XT M' T1) (e : FXT M M') : XAll n M' q T1 O W f := by
  obtain ⟨h0, -, h3, h4, h5⟩ := h
  exact ⟨h0.fr (fun o _ _ => e o (by omega) (by omega)), h1, h3.fr (e 41 (by omega) (by omega)) (e 42 (by omega) (by omega)), h4.fr (by rw [e 43 (by omega) (by omega)]) (e 44 (by omega) (by omega)), by rw [e 0 (by omega) (by omega)]; exact h5⟩
theorem XAll.w (h : XAll n M q T O W f) (h1 : XW n M' W1) (e : FWx M M') : XAll n M' q T O W1 f := by
  obtain ⟨h0, h2, h3, -, h5⟩ := h
  exact ⟨h0.fr (fun o _ _ => e o (by omega) (by omega)), h2.fr (e 39 (by omega) (by omega)) (e 40 (by omega) (by omega)), h3.fr (e 41 (by omega) (by omega)) (e 42 (by omega) (by omega)), h1, by rw [e 0 (by omega) (by omega)]; exact h5⟩
theorem XAll.m (h : XAll n M q T O W f) (h1 : XN n M' 0 q1) (h9 : M' 0 9 = f1) (h2 : XT M' T1) (e : ∀ o, 40 < o → M' o = M o) : XAll n M' q1 T1 O W f1 := by
  obtain ⟨-, -, h3, h4, -⟩ := h
  exact ⟨h1, h2, h3.fr (e 41 (by omega)) (e 42 (by omega)), h4.fr (by rw [e 43 (by omega)]) (e 44 (by omega)), h9⟩
theorem XAll.x (h : XAll n M q T O W f) (h3 : XO M' O1) (h1 : XN n M' 0 q) (e : ∀ o, (o < 7 ∨ o = 39 ∨ o = 40 ∨ 42 < o) → M' o = M o) : XAll n M' q T O1 W f := by
  obtain ⟨-, h2, -, h4, h5⟩ := h
  exact ⟨h1, h2.fr (e 39 (by omega)) (e 40 (by omega)), h3, h4.fr (by rw [e 43 (by omega)]) (e 44 (by omega)), by rw [e 0 (by omega)]; exact h5⟩
theorem XAll.c (h : XAll n M q T O W f) (h1 : XN n M' 0 q1) (h4 : XW n M' W1) (e : ∀ o, (o = 0 ∨ (38 < o ∧ o < 43) ∨ 46 < o) → M' o = M o) : XAll n M' q1 T O W1 f := by
  obtain ⟨-, h2, h3, -, h5⟩ := h
  exact ⟨h1, h2.fr (e 39 (by omega)) (e 40 (by omega)), h3.fr (e 41 (by omega)) (e 42 (by omega)), h4, by rw [e 0 (by omega)]; exact h5⟩
theorem XAll.p (h : XAll n M q T O W f) (h4 : XW n M' W1) (h1 : XN n M' 0 q) (e : ∀ o, (o < 43 ∨ o = 45 ∨ o = 46 ∨ 49 < o) → M' o = M o) : XAll n M' q T O W1 f := by
  obtain ⟨-, h2, h3, -, h5⟩ := h
  exact ⟨h1, h2.fr (e 39 (by omega)) (e 40 (by omega)), h3.fr (e 41 (by omega)) (e 42 (by omega)), h4, by rw [e 0 (by omega)]; exact h5⟩
theorem RAll.nn (h : RAll n M q T O W f) (h1 : RN n M' 0 q1) (e : FN M M') : RAll n M' q1 T O W f := by
  obtain ⟨-, h2, h3, h4, h5⟩ := h
  exact ⟨h1, h2.fr (e.2 14 (by omega) (by omega)) (e.1 58 (by omega)), h3.fr (e.2 15 (by omega) (by omega)) (e.1 59 (by omega)), h4.fr (e.2 18 (by omega) (by omega)) (e.1 60 (by omega)) (e.2 2 (by omega) (by omega)), by rw [e.2 16 (by omega) (by omega)]; exact h5⟩
theorem RAll.t (h : RAll n M q T O W f) (h1 : RT M' T1) (e : FTp M M') : RAll n M' q T1 O W f := by
  obtain ⟨h0, -, h3, h4, h5⟩ := h
  exact ⟨h0.ag (fun o _ _ => e.1 o (by omega) (by omega)) (fun j _ => e.2 j (by omega)), h1, h3.fr (e.2 15 (by omega)) (e.1 59 (by omega) (by omega)), h4.fr (e.2 18 (by omega)) (e.1 60 (by omega) (by omega)) (e.2 2 (by omega)), by rw [e.2 16 (by omega)]; exact h5⟩
theorem RAll.w (h : RAll n M q T O W f) (h1 : RW n M' W1) (e : FWd M M') : RAll n M' q T O W1 f := by
  obtain ⟨h0, h2, h3, -, h5⟩ := h
  exact ⟨h0.ag (fun o _ _ => e.1 o (by omega) (by omega)) (fun j _ => e.2 j (by omega)), h2.fr (e.2 14 (by omega)) (e.1 58 (by omega) (by omega)), h3.fr (e.2 15 (by omega)) (e.1 59 (by omega) (by omega)), h1, by rw [e.2 16 (by omega)]; exact h5⟩
theorem RAll.m (h : RAll n M q T O W f) (h1 : RN n M' 0 q1) (h9 : M' 50 16 = f1) (h2 : RT M' T1) (e : FNm M M') : RAll n M' q1 T1 O W f1 := by
  obtain ⟨-, -, h3, h4, -⟩ := h
  exact ⟨h1, h2, h3.fr (e.2 15 (by omega) (by omega) (by omega) (by omega)) (e.1 59 (by omega)), h4.fr (e.2 18 (by omega) (by omega) (by omega) (by omega)) (e.1 60 (by omega)) (e.2 2 (by omega) (by omega) (by omega) (by omega)), h9⟩
theorem RAll.x (h : RAll n M q T O W f) (h3 : RO M' O1) (h1 : RN n M' 0 q) (e : FTx M M') : RAll n M' q T O1 W f := by
  obtain ⟨-, h2, -, h4, h5⟩ := h
  exact ⟨h1, h2.fr (e.2 14 (by omega)) (e.1 58 (by omega) (by omega) (by omega) (by omega)), h3, h4.fr (e.2 18 (by omega)) (e.1 60 (by omega) (by omega) (by omega) (by omega)) (e.2 2 (by omega)), by rw [e.2 16 (by omega)]; exact h5⟩
theorem RAll.c (h : RAll n M q T O W f) (h1 : RN n M' 0 q1) (h4 : RW n M' W1) (e : FCk M M') : RAll n M' q1 T O W1 f := by
  obtain ⟨-, h2, h3, -, h5⟩ := h
  exact ⟨h1, h2.fr (e.2 14 (by omega) (by omega) (by omega) (by omega) (by omega)) (e.1 58 (by omega)), h3.fr (e.2 15 (by omega) (by omega) (by omega) (by omega) (by omega)) (e.1 59 (by omega)), h4, by rw [e.2 16 (by omega) (by omega) (by omega) (by omega) (by omega)]; exact h5⟩
theorem RAll.p (h : RAll n M q T O W f) (h4 : RW n M' W1) (h1 : RN n M' 0 q) (e : FPv M M') : RAll n M' q T O W1 f := by
  obtain ⟨-, h2, h3, -, h5⟩ := h
  exact ⟨h1, h2.fr (e.2 14 (by omega) (by omega) (by omega)) (e.1 58 (by omega) (by omega) (by omega)), h3.fr (e.2 15 (by omega) (by omega) (by omega)) (e.1 59 (by omega) (by omega) (by omega)), h4, by rw [e.2 16 (by omega) (by omega) (by omega)]; exact h5⟩
end ALL
theorem CkA_one {n : Nn} {q : RS} {W : WS} {h x y : Int} (h1 : CkA n q W h x) (h2 : CkA n q W h y) : x = y := by
  unfold CkA at h1 h2
  split at h1
  · rw [if_pos (by assumption)] at h2
    split at h1
    · rw [if_pos (by assumption)] at h2
      split at h1
      · rw [if_pos (by assumption)] at h2
        rcases h1 with ⟨a, b⟩ | ⟨a, b⟩ <;> rcases h2 with ⟨c, d⟩ | ⟨c, d⟩
        · omega
        · exact absurd b d
        · exact absurd d b
        · omega
      · rw [if_neg (by assumption)] at h2
        omega
    · rw [if_neg (by assumption)] at h2
      omega
  · rw [if_neg (by assumption)] at h2
    omega
section CASES
variable {p : Program} {l : Launch} {e : Env} {s : State} {m : MethodId} {args : Array Value} {below : List Frame} {meth : Method} {c : Code} {Q : State → Prop} {x0 : Jvm.Cond} {Z : ZT}
variable {M : Mem} {b L : Nat} {xs : Nat → Int32} {i : Nat}

set_option maxHeartbeats 2000000 in
theorem lc_alloc (X : CX p s m args c code 4 RL (x0 :: BIG) Z) (S : LSc s Z b L xs) (hZ : ZOk Z) (hi : i + 5 < L) (hI : INV (zN Z) M) (hE : ∀ M2, INV (zN Z) M2 → LW p l e s m args below meth c Z Q 1139 (LC i) [] M2) : LW p l e s m args below meth c Z Q 192 (LC i) [] M := by
  obtain ⟨q, T, O, W, f, hX, hR⟩ := hI
  refine lw_case X S (js := [1]) (off := 929) (callOk_L (ix := 21) X (imX7_alloc (l := l) hZ) (by decide) rfl mlL_21 iw_yX7_alloc vw_yX7_alloc nw_RX7 cw_yX7_alloc ⟨by decide, by decide, by show _ = some 1; decide +kernel⟩ ⟨by decide, by decide⟩) (callOk_L (ix := 25) X (imX8_alloc (l := l) hZ) (by decide) rfl mlL_25 iw_yX8_alloc vw_yX8_alloc nw_RX8 cw_yX8_alloc ⟨by decide, by decide, by show _ = some 1; decide +kernel⟩ ⟨by decide, by decide⟩) (by decide +kernel) rfl rfl (by intro j hj; simp only [List.mem_cons, List.not_mem_nil, or_false] at hj; omega) ?_
  refine ⟨(q, (xs (i + 1)).toInt), ⟨rfl, inR_i _, hX.1⟩, ?_⟩
  rintro x M1 ⟨rfl, hx1, hF1⟩
  have hR1 := hR.fr (fun o ho => hF1 o (Or.inr (by omega)))
  refine ⟨(zN Z, q, (xs (i + 1)).toInt), ⟨rfl, inR_i _, hR1.1⟩, ?_⟩
  rintro y M2 ⟨rfl, hr2, hF2⟩
  exact ⟨rfl, hE M2 ⟨_, T, O, W, f, (hX.nn hx1 hF1).fr (fun o ho => hF2.1 o (Or.inl ho)), hR1.nn hr2 hF2⟩⟩
set_option maxHeartbeats 2000000 in
theorem lc_release (X : CX p s m args c code 4 RL (x0 :: BIG) Z) (S : LSc s Z b L xs) (hZ : ZOk Z) (hi : i + 5 < L) (hI : INV (zN Z) M) (hE : ∀ M2, INV (zN Z) M2 → LW p l e s m args below meth c Z Q 1139 (LC i) [] M2) : LW p l e s m args below meth c Z Q 215 (LC i) [] M := by
  obtain ⟨q, T, O, W, f, hX, hR⟩ := hI
  refine lw_case X S (js := [1]) (off := 906) (callOk_L (ix := 26) X (imX7_release (l := l) hZ) (by decide) rfl mlL_26 iw_yX7_release vw_yX7_release nw_RX7 cw_yX7_release ⟨by decide, by decide, by show _ = some 1; decide +kernel⟩ ⟨by decide, by decide⟩) (callOk_L (ix := 29) X (imX8_release (l := l) hZ) (by decide) rfl mlL_29 iw_yX8_release vw_yX8_release nw_RX8 cw_yX8_release ⟨by decide, by decide, by show _ = some 1; decide +kernel⟩ ⟨by decide, by decide⟩) (by decide +kernel) rfl rfl (by intro j hj; simp only [List.mem_cons, List.not_mem_nil, or_false] at hj; omega) ?_
  refine ⟨(q, (xs (i + 1)).toInt), ⟨rfl, inR_i _, hX.1⟩, ?_⟩
  rintro x M1 ⟨rfl, hx1, hF1⟩
  have hR1 := hR.fr (fun o ho => hF1 o (Or.inr (by omega)))
  refine ⟨(zN Z, q, (xs (i + 1)).toInt), ⟨rfl, inR_i _, hR1.1⟩, ?_⟩
  rintro y M2 ⟨rfl, hr2, hF2⟩
  exact ⟨rfl, hE M2 ⟨_, T, O, W, f, (hX.nn hx1 hF1).fr (fun o ho => hF2.1 o (Or.inl ho)), hR1.nn hr2 hF2⟩⟩
set_option maxHeartbeats 2000000 in
theorem lc_resize (X : CX p s m args c code 4 RL (x0 :: BIG) Z) (S : LSc s Z b L xs) (hZ : ZOk Z) (hi : i + 5 < L) (hI : INV (zN Z) M) (hE : ∀ M2, INV (zN Z) M2 → LW p l e s m args below meth c Z Q 1139 (LC i) [] M2) : LW p l e s m args below meth c Z Q 238 (LC i) [] M := by
  obtain ⟨q, T, O, W, f, hX, hR⟩ := hI
  refine lw_case X S (js := [1, 2]) (off := 873) (callOk_L (ix := 30) X (imX7_resize (l := l) hZ) (by decide) rfl mlL_30 iw_yX7_resize vw_yX7_resize nw_RX7 cw_yX7_resize ⟨by decide, by decide, by show _ = some 2; decide +kernel⟩ ⟨by decide, by decide⟩) (callOk_L (ix := 34) X (imX8_resize (l := l) hZ) (by decide) rfl mlL_34 iw_yX8_resize vw_yX8_resize nw_RX8 cw_yX8_resize ⟨by decide, by decide, by show _ = some 2; decide +kernel⟩ ⟨by decide, by decide⟩) (by decide +kernel) rfl rfl (by intro j hj; simp only [List.mem_cons, List.not_mem_nil, or_false] at hj; omega) ?_
  refine ⟨(q, (xs (i + 1)).toInt, (xs (i + 2)).toInt), ⟨rfl, inR_i _, inR_i _, hX.1⟩, ?_⟩
  rintro x M1 ⟨rfl, hx1, hF1⟩
  have hR1 := hR.fr (fun o ho => hF1 o (Or.inr (by omega)))
  refine ⟨(zN Z, q, (xs (i + 1)).toInt, (xs (i + 2)).toInt), ⟨rfl, inR_i _, inR_i _, hR1.1⟩, ?_⟩
  rintro y M2 ⟨rfl, hr2, hF2⟩
  exact ⟨rfl, hE M2 ⟨_, T, O, W, f, (hX.nn hx1 hF1).fr (fun o ho => hF2.1 o (Or.inl ho)), hR1.nn hr2 hF2⟩⟩
set_option maxHeartbeats 2000000 in
theorem lc_setLimb (X : CX p s m args c code 4 RL (x0 :: BIG) Z) (S : LSc s Z b L xs) (hZ : ZOk Z) (hi : i + 5 < L) (hI : INV (zN Z) M) (hE : ∀ M2, INV (zN Z) M2 → LW p l e s m args below meth c Z Q 1139 (LC i) [] M2) : LW p l e s m args below meth c Z Q 271 (LC i) [] M := by
  obtain ⟨q, T, O, W, f, hX, hR⟩ := hI
  refine lw_case X S (js := [1, 2, 3]) (off := 830) (callOk_L (ix := 35) X (imX7_setLimb (l := l) hZ) (by decide) rfl mlL_35 iw_yX7_setLimb vw_yX7_setLimb nw_RX7 cw_yX7_setLimb ⟨by decide, by decide, by show _ = some 3; decide +kernel⟩ ⟨by decide, by decide⟩) (callOk_L (ix := 39) X (imX8_setLimb (l := l) hZ) (by decide) rfl mlL_39 iw_yX8_setLimb vw_yX8_setLimb nw_RX8 cw_yX8_setLimb ⟨by decide, by decide, by show _ = some 3; decide +kernel⟩ ⟨by decide, by decide⟩) (by decide +kernel) rfl rfl (by intro j hj; simp only [List.mem_cons, List.not_mem_nil, or_false] at hj; omega) ?_
  refine ⟨(q, (xs (i + 1)).toInt, (xs (i + 2)).toInt, (xs (i + 3)).toInt), ⟨rfl, inR_i _, inR_i _, inR_i _, hX.1⟩, ?_⟩
  rintro x M1 ⟨rfl, hx1, hF1⟩
  have hR1 := hR.fr (fun o ho => hF1 o (Or.inr (by omega)))
  refine ⟨(zN Z, q, (xs (i + 1)).toInt, (xs (i + 2)).toInt, (xs (i + 3)).toInt), ⟨rfl, inR_i _, inR_i _, inR_i _, hR1.1⟩, ?_⟩
  rintro y M2 ⟨rfl, hr2, hF2⟩
  exact ⟨rfl, hE M2 ⟨_, T, O, W, f, (hX.nn hx1 hF1).fr (fun o ho => hF2.1 o (Or.inl ho)), hR1.nn hr2 hF2⟩⟩
set_option maxHeartbeats 2000000 in
theorem lc_limb (X : CX p s m args c code 4 RL (x0 :: BIG) Z) (S : LSc s Z b L xs) (hZ : ZOk Z) (hi : i + 5 < L) (hI : INV (zN Z) M) (hE : ∀ M2, INV (zN Z) M2 → LW p l e s m args below meth c Z Q 1139 (LC i) [] M2) : LW p l e s m args below meth c Z Q 314 (LC i) [] M := by
  obtain ⟨q, T, O, W, f, hX, hR⟩ := hI
  refine lw_case X S (js := [1, 2]) (off := 797) (callOk_L (ix := 40) X (imX7_limb (l := l) hZ) (by decide) rfl mlL_40 iw_yX7_limb vw_yX7_limb nw_RX7 cw_yX7_limb ⟨by decide, by decide, by show _ = some 2; decide +kernel⟩ ⟨by decide, by decide⟩) (callOk_L (ix := 43) X (imX8_limb (l := l) hZ) (by decide) rfl mlL_43 iw_yX8_limb vw_yX8_limb nw_RX8 cw_yX8_limb ⟨by decide, by decide, by show _ = some 2; decide +kernel⟩ ⟨by decide, by decide⟩) (by decide +kernel) rfl rfl (by intro j hj; simp only [List.mem_cons, List.not_mem_nil, or_false] at hj; omega) ?_
  refine ⟨(q, (xs (i + 1)).toInt, (xs (i + 2)).toInt), ⟨rfl, inR_i _, inR_i _, hX.1⟩, ?_⟩
  rintro x M1 ⟨rfl, hx1, hF1⟩
  have hR1 := hR.fr (fun o ho => hF1 o (Or.inr (by omega)))
  refine ⟨(zN Z, q, (xs (i + 1)).toInt, (xs (i + 2)).toInt), ⟨rfl, inR_i _, inR_i _, hR1.1⟩, ?_⟩
  rintro y M2 ⟨rfl, rfl⟩
  exact ⟨rfl, hE _ ⟨q, T, O, W, f, hX.nn hx1 hF1, hR1⟩⟩
set_option maxHeartbeats 2000000 in
theorem lc_look (X : CX p s m args c code 4 RL (x0 :: BIG) Z) (S : LSc s Z b L xs) (hZ : ZOk Z) (hi : i + 5 < L) (hI : INV (zN Z) M) (hE : ∀ M2, INV (zN Z) M2 → LW p l e s m args below meth c Z Q 1139 (LC i) [] M2) : LW p l e s m args below meth c Z Q 347 (LC i) [] M := by
  obtain ⟨q, T, O, W, f, hX, hR⟩ := hI
  refine lw_case X S (js := [1, 2]) (off := 764) (callOk_L (ix := 44) X (imX7_look (l := l) hZ) (by decide) rfl mlL_44 iw_yX7_look vw_yX7_look nw_RX7 cw_yX7_look ⟨by decide, by decide, by show _ = some 2; decide +kernel⟩ ⟨by decide, by decide⟩) (callOk_L (ix := 47) X (imX8_look (l := l) hZ) (by decide) rfl mlL_47 iw_yX8_look vw_yX8_look nw_RX8 cw_yX8_look ⟨by decide, by decide, by show _ = some 2; decide +kernel⟩ ⟨by decide, by decide⟩) (by decide +kernel) rfl rfl (by intro j hj; simp only [List.mem_cons, List.not_mem_nil, or_false] at hj; omega) ?_
  refine ⟨(q, (xs (i + 1)).toInt, (xs (i + 2)).toInt), ⟨rfl, inR_i _, inR_i _, hX.1⟩, ?_⟩
  rintro x M1 ⟨rfl, hx1, hF1⟩
  have hR1 := hR.fr (fun o ho => hF1 o (Or.inr (by omega)))
  refine ⟨(zN Z, q, (xs (i + 1)).toInt, (xs (i + 2)).toInt), ⟨rfl, inR_i _, inR_i _, hR1.1⟩, ?_⟩
  rintro y M2 ⟨rfl, rfl⟩
  exact ⟨rfl, hE _ ⟨q, T, O, W, f, hX.nn hx1 hF1, hR1⟩⟩
set_option maxHeartbeats 2000000 in
theorem lc_about (X : CX p s m args c code 4 RL (x0 :: BIG) Z) (S : LSc s Z b L xs) (hZ : ZOk Z) (hi : i + 5 < L) (hI : INV (zN Z) M) (hE : ∀ M2, INV (zN Z) M2 → LW p l e s m args below meth c Z Q 1139 (LC i) [] M2) : LW p l e s m args below meth c Z Q 380 (LC i) [] M := by
  obtain ⟨q, T, O, W, f, hX, hR⟩ := hI
  refine lw_case X S (js := [1]) (off := 741) (callOk_L (ix := 48) X (imX7_about (l := l) hZ) (by decide) rfl mlL_48 iw_yX7_about vw_yX7_about nw_RX7 cw_yX7_about ⟨by decide, by decide, by show _ = some 1; decide +kernel⟩ ⟨by decide, by decide⟩) (callOk_L (ix := 51) X (imX8_about (l := l) hZ) (by decide) rfl mlL_51 iw_yX8_about vw_yX8_about nw_RX8 cw_yX8_about ⟨by decide, by decide, by show _ = some 1; decide +kernel⟩ ⟨by decide, by decide⟩) (by decide +kernel) rfl rfl (by intro j hj; simp only [List.mem_cons, List.not_mem_nil, or_false] at hj; omega) ?_
  refine ⟨(q, W, T, (xs (i + 1)).toInt), ⟨rfl, inR_i _, hX.1, hX.2.2.2.1, hX.2.1⟩, ?_⟩
  rintro x M1 ⟨rfl, rfl⟩
  refine ⟨(zN Z, q, W.1, T.1, (xs (i + 1)).toInt), ⟨rfl, inR_i _, hR.1, hR.2.2.2.1.1.1, hR.2.1.1, hR.2.2.2.1.2.1⟩, ?_⟩
  rintro y M2 ⟨rfl, rfl⟩
  exact ⟨rfl, hE _ ⟨q, T, O, W, f, hX, hR⟩⟩
set_option maxHeartbeats 2000000 in
theorem lc_cell (X : CX p s m args c code 4 RL (x0 :: BIG) Z) (S : LSc s Z b L xs) (hZ : ZOk Z) (hi : i + 5 < L) (hI : INV (zN Z) M) (hE : ∀ M2, INV (zN Z) M2 → LW p l e s m args below meth c Z Q 1139 (LC i) [] M2) : LW p l e s m args below meth c Z Q 403 (LC i) [] M := by
  obtain ⟨q, T, O, W, f, hX, hR⟩ := hI
  refine lw_case X S (js := [1]) (off := 718) (callOk_L (ix := 52) X (imX7_cell (l := l) hZ) (by decide) rfl mlL_52 iw_yX7_cell vw_yX7_cell nw_RX7 cw_yX7_cell ⟨by decide, by decide, by show _ = some 1; decide +kernel⟩ ⟨by decide, by decide⟩) (callOk_L (ix := 54) X (imX8_cell (l := l) hZ) (by decide) rfl mlL_54 iw_yX8_cell vw_yX8_cell nw_RX8 cw_yX8_cell ⟨by decide, by decide, by show _ = some 1; decide +kernel⟩ ⟨by decide, by decide⟩) (by decide +kernel) rfl rfl (by intro j hj; simp only [List.mem_cons, List.not_mem_nil, or_false] at hj; omega) ?_
  refine ⟨(q, (xs (i + 1)).toInt), ⟨rfl, inR_i _, hX.1⟩, ?_⟩
  rintro x M1 ⟨rfl, hx1, hF1⟩
  have hR1 := hR.fr (fun o ho => hF1 o (Or.inr (by omega)))
  refine ⟨(zN Z, q, (xs (i + 1)).toInt), ⟨rfl, inR_i _, hR1.1⟩, ?_⟩
  rintro y M2 ⟨rfl, rfl⟩
  exact ⟨rfl, hE _ ⟨q, T, O, W, f, hX.nn hx1 hF1, hR1⟩⟩
set_option maxHeartbeats 2000000 in
theorem lc_add (X : CX p s m args c code 4 RL (x0 :: BIG) Z) (S : LSc s Z b L xs) (hZ : ZOk Z) (hi : i + 5 < L) (hI : INV (zN Z) M) (hE : ∀ M2, INV (zN Z) M2 → LW p l e s m args below meth c Z Q 1139 (LC i) [] M2) : LW p l e s m args below meth c Z Q 426 (LC i) [] M := by
  obtain ⟨q, T, O, W, f, hX, hR⟩ := hI
  refine lw_case X S (js := [1, 2, 3]) (off := 675) (callOk_L (ix := 55) X (imX7_add (l := l) hZ) (by decide) rfl mlL_55 iw_yX7_add vw_yX7_add nw_RX7 cw_yX7_add ⟨by decide, by decide, by show _ = some 3; decide +kernel⟩ ⟨by decide, by decide⟩) (callOk_L (ix := 58) X (imX8_add (l := l) hZ) (by decide) rfl mlL_58 iw_yX8_add vw_yX8_add nw_RX8 cw_yX8_add ⟨by decide, by decide, by show _ = some 3; decide +kernel⟩ ⟨by decide, by decide⟩) (by decide +kernel) rfl rfl (by intro j hj; simp only [List.mem_cons, List.not_mem_nil, or_false] at hj; omega) ?_
  refine ⟨(q, (xs (i + 1)).toInt, (xs (i + 2)).toInt, (xs (i + 3)).toInt), ⟨rfl, inR_i _, inR_i _, inR_i _, hX.1⟩, ?_⟩
  rintro x M1 ⟨rfl, hx1, hF1⟩
  have hR1 := hR.fr (fun o ho => hF1 o (Or.inr (by omega)))
  refine ⟨(zN Z, q, (xs (i + 1)).toInt, (xs (i + 2)).toInt, (xs (i + 3)).toInt), ⟨rfl, inR_i _, inR_i _, inR_i _, hR1.1⟩, ?_⟩
  rintro y M2 ⟨rfl, hr2, hF2⟩
  exact ⟨rfl, hE M2 ⟨_, T, O, W, f, (hX.nn hx1 hF1).fr (fun o ho => hF2.1 o (Or.inl ho)), hR1.nn hr2 hF2⟩⟩
set_option maxHeartbeats 2000000 in
theorem lc_sub (X : CX p s m args c code 4 RL (x0 :: BIG) Z) (S : LSc s Z b L xs) (hZ : ZOk Z) (hi : i + 5 < L) (hI : INV (zN Z) M) (hE : ∀ M2, INV (zN Z) M2 → LW p l e s m args below meth c Z Q 1139 (LC i) [] M2) : LW p l e s m args below meth c Z Q 469 (LC i) [] M := by
  obtain ⟨q, T, O, W, f, hX, hR⟩ := hI
  refine lw_case X S (js := [1, 2, 3]) (off := 632) (callOk_L (ix := 59) X (imX7_sub (l := l) hZ) (by decide) rfl mlL_59 iw_yX7_sub vw_yX7_sub nw_RX7 cw_yX7_sub ⟨by decide, by decide, by show _ = some 3; decide +kernel⟩ ⟨by decide, by decide⟩) (callOk_L (ix := 62) X (imX8_sub (l := l) hZ) (by decide) rfl mlL_62 iw_yX8_sub vw_yX8_sub nw_RX8 cw_yX8_sub ⟨by decide, by decide, by show _ = some 3; decide +kernel⟩ ⟨by decide, by decide⟩) (by decide +kernel) rfl rfl (by intro j hj; simp only [List.mem_cons, List.not_mem_nil, or_false] at hj; omega) ?_
  refine ⟨(q, (xs (i + 1)).toInt, (xs (i + 2)).toInt, (xs (i + 3)).toInt), ⟨rfl, inR_i _, inR_i _, inR_i _, hX.1⟩, ?_⟩
  rintro x M1 ⟨rfl, hx1, hF1⟩
  have hR1 := hR.fr (fun o ho => hF1 o (Or.inr (by omega)))
  refine ⟨(zN Z, q, (xs (i + 1)).toInt, (xs (i + 2)).toInt, (xs (i + 3)).toInt), ⟨rfl, inR_i _, inR_i _, inR_i _, hR1.1⟩, ?_⟩
  rintro y M2 ⟨rfl, hr2, hF2⟩
  exact ⟨rfl, hE M2 ⟨_, T, O, W, f, (hX.nn hx1 hF1).fr (fun o ho => hF2.1 o (Or.inl ho)), hR1.nn hr2 hF2⟩⟩
set_option maxHeartbeats 2000000 in
theorem lc_mul (X : CX p s m args c code 4 RL (x0 :: BIG) Z) (S : LSc s Z b L xs) (hZ : ZOk Z) (hi : i + 5 < L) (hI : INV (zN Z) M) (hE : ∀ M2, INV (zN Z) M2 → LW p l e s m args below meth c Z Q 1139 (LC i) [] M2) : LW p l e s m args below meth c Z Q 512 (LC i) [] M := by
  obtain ⟨q, T, O, W, f, hX, hR⟩ := hI
  refine lw_case X S (js := [1, 2, 3]) (off := 589) (callOk_L (ix := 63) X (imX7_mul (l := l) hZ) (by decide) rfl mlL_63 iw_yX7_mul vw_yX7_mul nw_RX7 cw_yX7_mul ⟨by decide, by decide, by show _ = some 3; decide +kernel⟩ ⟨by decide, by decide⟩) (callOk_L (ix := 66) X (imX8_mul (l := l) hZ) (by decide) rfl mlL_66 iw_yX8_mul vw_yX8_mul nw_RX8 cw_yX8_mul ⟨by decide, by decide, by show _ = some 3; decide +kernel⟩ ⟨by decide, by decide⟩) (by decide +kernel) rfl rfl (by intro j hj; simp only [List.mem_cons, List.not_mem_nil, or_false] at hj; omega) ?_
  refine ⟨(q, (xs (i + 1)).toInt, (xs (i + 2)).toInt, (xs (i + 3)).toInt), ⟨rfl, inR_i _, inR_i _, inR_i _, hX.1⟩, ?_⟩
  rintro x M1 ⟨rfl, hx1, hF1⟩
  have hR1 := hR.fr (fun o ho => hF1 o (Or.inr (by omega)))
  refine ⟨(zN Z, q, (xs (i + 1)).toInt, (xs (i + 2)).toInt, (xs (i + 3)).toInt), ⟨rfl, inR_i _, inR_i _, inR_i _, hR1.1⟩, ?_⟩
  rintro y M2 ⟨rfl, hr2, hF2⟩
  exact ⟨rfl, hE M2 ⟨_, T, O, W, f, (hX.nn hx1 hF1).fr (fun o ho => hF2.1 o (Or.inl ho)), hR1.nn hr2 hF2⟩⟩
set_option maxHeartbeats 2000000 in
theorem lc_divmod (X : CX p s m args c code 4 RL (x0 :: BIG) Z) (S : LSc s Z b L xs) (hZ : ZOk Z) (hi : i + 5 < L) (hI : INV (zN Z) M) (hE : ∀ M2, INV (zN Z) M2 → LW p l e s m args below meth c Z Q 1139 (LC i) [] M2) : LW p l e s m args below meth c Z Q 555 (LC i) [] M := by
  obtain ⟨q, T, O, W, f, hX, hR⟩ := hI
  refine lw_case X S (js := [1, 2, 3, 4]) (off := 536) (callOk_L (ix := 67) X (imX7_divmod (l := l) hZ) (by decide) rfl mlL_67 iw_yX7_divmod vw_yX7_divmod nw_RX7 cw_yX7_divmod ⟨by decide, by decide, by show _ = some 4; decide +kernel⟩ ⟨by decide, by decide⟩) (callOk_L (ix := 71) X (imX8_divmod (l := l) hZ) (by decide) rfl mlL_71 iw_yX8_divmod vw_yX8_divmod nw_RX8 cw_yX8_divmod ⟨by decide, by decide, by show _ = some 4; decide +kernel⟩ ⟨by decide, by decide⟩) (by decide +kernel) rfl rfl (by intro j hj; simp only [List.mem_cons, List.not_mem_nil, or_false] at hj; omega) ?_
  refine ⟨(q, (xs (i + 1)).toInt, (xs (i + 2)).toInt, (xs (i + 3)).toInt, (xs (i + 4)).toInt), ⟨rfl, inR_i _, inR_i _, inR_i _, inR_i _, hX.1⟩, ?_⟩
  rintro x M1 ⟨rfl, hx1, hF1⟩
  have hR1 := hR.fr (fun o ho => hF1 o (Or.inr (by omega)))
  refine ⟨(zN Z, q, (xs (i + 1)).toInt, (xs (i + 2)).toInt, (xs (i + 3)).toInt, (xs (i + 4)).toInt), ⟨rfl, inR_i _, inR_i _, inR_i _, inR_i _, hR1.1⟩, ?_⟩
  rintro y M2 ⟨rfl, hr2, hF2⟩
  exact ⟨rfl, hE M2 ⟨_, T, O, W, f, (hX.nn hx1 hF1).fr (fun o ho => hF2.1 o (Or.inl ho)), hR1.nn hr2 hF2⟩⟩
set_option maxHeartbeats 2000000 in
theorem lc_powmod (X : CX p s m args c code 4 RL (x0 :: BIG) Z) (S : LSc s Z b L xs) (hZ : ZOk Z) (hi : i + 5 < L) (hI : INV (zN Z) M) (hE : ∀ M2, INV (zN Z) M2 → LW p l e s m args below meth c Z Q 1139 (LC i) [] M2) : LW p l e s m args below meth c Z Q 608 (LC i) [] M := by
  obtain ⟨q, T, O, W, f, hX, hR⟩ := hI
  refine lw_case X S (js := [1, 2, 3, 4]) (off := 483) (callOk_L (ix := 72) X (imX7_powmod (l := l) hZ) (by decide) rfl mlL_72 iw_yX7_powmod vw_yX7_powmod nw_RX7 cw_yX7_powmod ⟨by decide, by decide, by show _ = some 4; decide +kernel⟩ ⟨by decide, by decide⟩) (callOk_L (ix := 75) X (imX8_powmod (l := l) hZ) (by decide) rfl mlL_75 iw_yX8_powmod vw_yX8_powmod nw_RX8 cw_yX8_powmod ⟨by decide, by decide, by show _ = some 4; decide +kernel⟩ ⟨by decide, by decide⟩) (by decide +kernel) rfl rfl (by intro j hj; simp only [List.mem_cons, List.not_mem_nil, or_false] at hj; omega) ?_
  refine ⟨(q, (xs (i + 1)).toInt, (xs (i + 2)).toInt, (xs (i + 3)).toInt, (xs (i + 4)).toInt), ⟨rfl, inR_i _, inR_i _, inR_i _, inR_i _, hX.1⟩, ?_⟩
  rintro x M1 ⟨rfl, hx1, hF1⟩
  have hR1 := hR.fr (fun o ho => hF1 o (Or.inr (by omega)))
  refine ⟨(zN Z, q, (xs (i + 1)).toInt, (xs (i + 2)).toInt, (xs (i + 3)).toInt, (xs (i + 4)).toInt), ⟨rfl, inR_i _, inR_i _, inR_i _, inR_i _, hR1.1⟩, ?_⟩
  rintro y M2 ⟨rfl, hr2, hF2⟩
  exact ⟨rfl, hE M2 ⟨_, T, O, W, f, (hX.nn hx1 hF1).fr (fun o ho => hF2.1 o (Or.inl ho)), hR1.nn hr2 hF2⟩⟩
set_option maxHeartbeats 2000000 in
theorem lc_gcd (X : CX p s m args c code 4 RL (x0 :: BIG) Z) (S : LSc s Z b L xs) (hZ : ZOk Z) (hi : i + 5 < L) (hI : INV (zN Z) M) (hE : ∀ M2, INV (zN Z) M2 → LW p l e s m args below meth c Z Q 1139 (LC i) [] M2) : LW p l e s m args below meth c Z Q 661 (LC i) [] M := by
  obtain ⟨q, T, O, W, f, hX, hR⟩ := hI
  refine lw_case X S (js := [1, 2, 3]) (off := 440) (callOk_L (ix := 76) X (imX7_gcd (l := l) hZ) (by decide) rfl mlL_76 iw_yX7_gcd vw_yX7_gcd nw_RX7 cw_yX7_gcd ⟨by decide, by decide, by show _ = some 3; decide +kernel⟩ ⟨by decide, by decide⟩) (callOk_L (ix := 79) X (imX8_gcd (l := l) hZ) (by decide) rfl mlL_79 iw_yX8_gcd vw_yX8_gcd nw_RX8 cw_yX8_gcd ⟨by decide, by decide, by show _ = some 3; decide +kernel⟩ ⟨by decide, by decide⟩) (by decide +kernel) rfl rfl (by intro j hj; simp only [List.mem_cons, List.not_mem_nil, or_false] at hj; omega) ?_
  refine ⟨(q, (xs (i + 1)).toInt, (xs (i + 2)).toInt, (xs (i + 3)).toInt), ⟨rfl, inR_i _, inR_i _, inR_i _, hX.1⟩, ?_⟩
  rintro x M1 ⟨rfl, hx1, hF1⟩
  have hR1 := hR.fr (fun o ho => hF1 o (Or.inr (by omega)))
  refine ⟨(zN Z, q, (xs (i + 1)).toInt, (xs (i + 2)).toInt, (xs (i + 3)).toInt), ⟨rfl, inR_i _, inR_i _, inR_i _, hR1.1⟩, ?_⟩
  rintro y M2 ⟨rfl, hr2, hF2⟩
  exact ⟨rfl, hE M2 ⟨_, T, O, W, f, (hX.nn hx1 hF1).fr (fun o ho => hF2.1 o (Or.inl ho)), hR1.nn hr2 hF2⟩⟩
set_option maxHeartbeats 2000000 in
theorem lc_root (X : CX p s m args c code 4 RL (x0 :: BIG) Z) (S : LSc s Z b L xs) (hZ : ZOk Z) (hi : i + 5 < L) (hI : INV (zN Z) M) (hE : ∀ M2, INV (zN Z) M2 → LW p l e s m args below meth c Z Q 1139 (LC i) [] M2) : LW p l e s m args below meth c Z Q 704 (LC i) [] M := by
  obtain ⟨q, T, O, W, f, hX, hR⟩ := hI
  refine lw_case X S (js := [1, 2]) (off := 407) (callOk_L (ix := 80) X (imX7_root (l := l) hZ) (by decide) rfl mlL_80 iw_yX7_root vw_yX7_root nw_RX7 cw_yX7_root ⟨by decide, by decide, by show _ = some 2; decide +kernel⟩ ⟨by decide, by decide⟩) (callOk_L (ix := 83) X (imX8_root (l := l) hZ) (by decide) rfl mlL_83 iw_yX8_root vw_yX8_root nw_RX8 cw_yX8_root ⟨by decide, by decide, by show _ = some 2; decide +kernel⟩ ⟨by decide, by decide⟩) (by decide +kernel) rfl rfl (by intro j hj; simp only [List.mem_cons, List.not_mem_nil, or_false] at hj; omega) ?_
  refine ⟨(q, (xs (i + 1)).toInt, (xs (i + 2)).toInt), ⟨rfl, inR_i _, inR_i _, hX.1⟩, ?_⟩
  rintro x M1 ⟨rfl, hx1, hF1⟩
  have hR1 := hR.fr (fun o ho => hF1 o (Or.inr (by omega)))
  refine ⟨(zN Z, q, (xs (i + 1)).toInt, (xs (i + 2)).toInt), ⟨rfl, inR_i _, inR_i _, hR1.1⟩, ?_⟩
  rintro y M2 ⟨rfl, hr2, hF2⟩
  exact ⟨rfl, hE M2 ⟨_, T, O, W, f, (hX.nn hx1 hF1).fr (fun o ho => hF2.1 o (Or.inl ho)), hR1.nn hr2 hF2⟩⟩
set_option maxHeartbeats 2000000 in
theorem lc_shift (X : CX p s m args c code 4 RL (x0 :: BIG) Z) (S : LSc s Z b L xs) (hZ : ZOk Z) (hi : i + 5 < L) (hI : INV (zN Z) M) (hE : ∀ M2, INV (zN Z) M2 → LW p l e s m args below meth c Z Q 1139 (LC i) [] M2) : LW p l e s m args below meth c Z Q 737 (LC i) [] M := by
  obtain ⟨q, T, O, W, f, hX, hR⟩ := hI
  refine lw_case X S (js := [1, 2, 3]) (off := 364) (callOk_L (ix := 84) X (imX7_shift (l := l) hZ) (by decide) rfl mlL_84 iw_yX7_shift vw_yX7_shift nw_RX7 cw_yX7_shift ⟨by decide, by decide, by show _ = some 3; decide +kernel⟩ ⟨by decide, by decide⟩) (callOk_L (ix := 87) X (imX8_shift (l := l) hZ) (by decide) rfl mlL_87 iw_yX8_shift vw_yX8_shift nw_RX8 cw_yX8_shift ⟨by decide, by decide, by show _ = some 3; decide +kernel⟩ ⟨by decide, by decide⟩) (by decide +kernel) rfl rfl (by intro j hj; simp only [List.mem_cons, List.not_mem_nil, or_false] at hj; omega) ?_
  refine ⟨(q, (xs (i + 1)).toInt, (xs (i + 2)).toInt, (xs (i + 3)).toInt), ⟨rfl, inR_i _, inR_i _, inR_i _, hX.1⟩, ?_⟩
  rintro x M1 ⟨rfl, hx1, hF1⟩
  have hR1 := hR.fr (fun o ho => hF1 o (Or.inr (by omega)))
  refine ⟨(zN Z, q, (xs (i + 1)).toInt, (xs (i + 2)).toInt, (xs (i + 3)).toInt), ⟨rfl, inR_i _, inR_i _, inR_i _, hR1.1⟩, ?_⟩
  rintro y M2 ⟨rfl, hr2, hF2⟩
  exact ⟨rfl, hE M2 ⟨_, T, O, W, f, (hX.nn hx1 hF1).fr (fun o ho => hF2.1 o (Or.inl ho)), hR1.nn hr2 hF2⟩⟩
set_option maxHeartbeats 2000000 in
theorem lc_compare (X : CX p s m args c code 4 RL (x0 :: BIG) Z) (S : LSc s Z b L xs) (hZ : ZOk Z) (hi : i + 5 < L) (hI : INV (zN Z) M) (hE : ∀ M2, INV (zN Z) M2 → LW p l e s m args below meth c Z Q 1139 (LC i) [] M2) : LW p l e s m args below meth c Z Q 780 (LC i) [] M := by
  obtain ⟨q, T, O, W, f, hX, hR⟩ := hI
  refine lw_case X S (js := [1, 2]) (off := 331) (callOk_L (ix := 88) X (imX7_compare (l := l) hZ) (by decide) rfl mlL_88 iw_yX7_compare vw_yX7_compare nw_RX7 cw_yX7_compare ⟨by decide, by decide, by show _ = some 2; decide +kernel⟩ ⟨by decide, by decide⟩) (callOk_L (ix := 91) X (imX8_compare (l := l) hZ) (by decide) rfl mlL_91 iw_yX8_compare vw_yX8_compare nw_RX8 cw_yX8_compare ⟨by decide, by decide, by show _ = some 2; decide +kernel⟩ ⟨by decide, by decide⟩) (by decide +kernel) rfl rfl (by intro j hj; simp only [List.mem_cons, List.not_mem_nil, or_false] at hj; omega) ?_
  refine ⟨(q, (xs (i + 1)).toInt, (xs (i + 2)).toInt), ⟨rfl, inR_i _, inR_i _, hX.1⟩, ?_⟩
  rintro x M1 ⟨rfl, hx1, hF1⟩
  have hR1 := hR.fr (fun o ho => hF1 o (Or.inr (by omega)))
  refine ⟨(zN Z, q, (xs (i + 1)).toInt, (xs (i + 2)).toInt), ⟨rfl, inR_i _, inR_i _, hR1.1⟩, ?_⟩
  rintro y M2 ⟨rfl, rfl⟩
  exact ⟨rfl, hE _ ⟨q, T, O, W, f, hX.nn hx1 hF1, hR1⟩⟩
set_option maxHeartbeats 2000000 in
theorem lc_jacobi (X : CX p s m args c code 4 RL (x0 :: BIG) Z) (S : LSc s Z b L xs) (hZ : ZOk Z) (hi : i + 5 < L) (hI : INV (zN Z) M) (hE : ∀ M2, INV (zN Z) M2 → LW p l e s m args below meth c Z Q 1139 (LC i) [] M2) : LW p l e s m args below meth c Z Q 813 (LC i) [] M := by
  obtain ⟨q, T, O, W, f, hX, hR⟩ := hI
  refine lw_case X S (js := [1, 2]) (off := 298) (callOk_L (ix := 92) X (imX7_jacobi (l := l) hZ) (by decide) rfl mlL_92 iw_yX7_jacobi vw_yX7_jacobi nw_RX7 cw_yX7_jacobi ⟨by decide, by decide, by show _ = some 2; decide +kernel⟩ ⟨by decide, by decide⟩) (callOk_L (ix := 95) X (imX8_jacobi (l := l) hZ) (by decide) rfl mlL_95 iw_yX8_jacobi vw_yX8_jacobi nw_RX8 cw_yX8_jacobi ⟨by decide, by decide, by show _ = some 2; decide +kernel⟩ ⟨by decide, by decide⟩) (by decide +kernel) rfl rfl (by intro j hj; simp only [List.mem_cons, List.not_mem_nil, or_false] at hj; omega) ?_
  refine ⟨(q, (xs (i + 1)).toInt, (xs (i + 2)).toInt), ⟨rfl, inR_i _, inR_i _, hX.1⟩, ?_⟩
  rintro x M1 ⟨rfl, hx1, hF1⟩
  have hR1 := hR.fr (fun o ho => hF1 o (Or.inr (by omega)))
  refine ⟨(zN Z, q, (xs (i + 1)).toInt, (xs (i + 2)).toInt), ⟨rfl, inR_i _, inR_i _, hR1.1⟩, ?_⟩
  rintro y M2 ⟨rfl, hr2, hF2⟩
  exact ⟨rfl, hE M2 ⟨_, T, O, W, f, (hX.nn hx1 hF1).fr (fun o ho => hF2.1 o (Or.inl ho)), hR1.nn hr2 hF2⟩⟩
set_option maxHeartbeats 2000000 in
theorem lc_feed (X : CX p s m args c code 4 RL (x0 :: BIG) Z) (S : LSc s Z b L xs) (hZ : ZOk Z) (hi : i + 5 < L) (hI : INV (zN Z) M) (hE : ∀ M2, INV (zN Z) M2 → LW p l e s m args below meth c Z Q 1139 (LC i) [] M2) : LW p l e s m args below meth c Z Q 846 (LC i) [] M := by
  obtain ⟨q, T, O, W, f, hX, hR⟩ := hI
  refine lw_case X S (js := [1, 2, 3, 4, 5]) (off := 235) (callOk_L (ix := 96) X (imX7_feed (l := l) hZ) (by decide) rfl mlL_96 iw_yX7_feed vw_yX7_feed nw_RX7 cw_yX7_feed ⟨by decide, by decide, by show _ = some 5; decide +kernel⟩ ⟨by decide, by decide⟩) (callOk_L (ix := 100) X (imX8_feed (l := l) hZ) (by decide) rfl mlL_100 iw_yX8_feed vw_yX8_feed nw_RX8 cw_yX8_feed ⟨by decide, by decide, by show _ = some 5; decide +kernel⟩ ⟨by decide, by decide⟩) (by decide +kernel) rfl rfl (by intro j hj; simp only [List.mem_cons, List.not_mem_nil, or_false] at hj; omega) ?_
  refine ⟨(T, (xs (i + 1)).toInt, (xs (i + 2)).toInt, (xs (i + 3)).toInt, (xs (i + 4)).toInt, (xs (i + 5)).toInt), ⟨rfl, inR_i _, inR_i _, inR_i _, inR_i _, inR_i _, hX.2.1⟩, ?_⟩
  rintro x M1 ⟨rfl, hx1, hF1⟩
  have hR1 := hR.fr (fun o ho => hF1 o (by omega) (by omega))
  refine ⟨(T, (xs (i + 1)).toInt, (xs (i + 2)).toInt, (xs (i + 3)).toInt, (xs (i + 4)).toInt, (xs (i + 5)).toInt), ⟨rfl, inR_i _, inR_i _, inR_i _, inR_i _, inR_i _, hR1.2.1⟩, ?_⟩
  rintro y M2 ⟨rfl, hr2, hF2⟩
  exact ⟨rfl, hE M2 ⟨q, _, O, W, f, (hX.t hx1 hF1).fr (fun o ho => hF2.1 o (by omega) (by omega)), hR1.t hr2 hF2⟩⟩
set_option maxHeartbeats 2000000 in
theorem lc_end (X : CX p s m args c code 4 RL (x0 :: BIG) Z) (S : LSc s Z b L xs) (hZ : ZOk Z) (hi : i + 5 < L) (hI : INV (zN Z) M) (hE : ∀ M2, INV (zN Z) M2 → LW p l e s m args below meth c Z Q 1139 (LC i) [] M2) : LW p l e s m args below meth c Z Q 909 (LC i) [] M := by
  obtain ⟨q, T, O, W, f, hX, hR⟩ := hI
  refine lw_case X S (js := [1]) (off := 212) (callOk_L (ix := 101) X (imX7_end (l := l) hZ) (by decide) rfl mlL_101 iw_yX7_end vw_yX7_end nw_RX7 cw_yX7_end ⟨by decide, by decide, by show _ = some 1; decide +kernel⟩ ⟨by decide, by decide⟩) (callOk_L (ix := 105) X (imX8_end_ (l := l) hZ) (by decide) rfl mlL_105 iw_yX8_end_ vw_yX8_end_ nw_RX8 cw_yX8_end_ ⟨by decide, by decide, by show _ = some 1; decide +kernel⟩ ⟨by decide, by decide⟩) (by decide +kernel) rfl rfl (by intro j hj; simp only [List.mem_cons, List.not_mem_nil, or_false] at hj; omega) ?_
  refine ⟨(T, (xs (i + 1)).toInt), ⟨rfl, inR_i _, hX.2.1⟩, ?_⟩
  rintro x M1 ⟨rfl, hx1, hF1⟩
  have hR1 := hR.fr (fun o ho => hF1 o (by omega) (by omega))
  refine ⟨(T, (xs (i + 1)).toInt), ⟨rfl, inR_i _, hR1.2.1⟩, ?_⟩
  rintro y M2 ⟨rfl, hr2, hF2⟩
  exact ⟨rfl, hE M2 ⟨q, _, O, W, f, (hX.t hx1 hF1).fr (fun o ho => hF2.1 o (by omega) (by omega)), hR1.t hr2 hF2⟩⟩
set_option maxHeartbeats 2000000 in
theorem lc_number (X : CX p s m args c code 4 RL (x0 :: BIG) Z) (S : LSc s Z b L xs) (hZ : ZOk Z) (hi : i + 5 < L) (hI : INV (zN Z) M) (hE : ∀ M2, INV (zN Z) M2 → LW p l e s m args below meth c Z Q 1139 (LC i) [] M2) : LW p l e s m args below meth c Z Q 932 (LC i) [] M := by
  obtain ⟨q, T, O, W, f, hX, hR⟩ := hI
  refine lw_case X S (js := [1, 2]) (off := 179) (callOk_L (ix := 106) X (imX7_number (l := l) hZ) (by decide) rfl mlL_106 iw_yX7_number vw_yX7_number nw_RX7 cw_yX7_number ⟨by decide, by decide, by show _ = some 2; decide +kernel⟩ ⟨by decide, by decide⟩) (callOk_L (ix := 109) X (imX8_number (l := l) hZ) (by decide) rfl mlL_109 iw_yX8_number vw_yX8_number nw_RX8 cw_yX8_number ⟨by decide, by decide, by show _ = some 2; decide +kernel⟩ ⟨by decide, by decide⟩) (by decide +kernel) rfl rfl (by intro j hj; simp only [List.mem_cons, List.not_mem_nil, or_false] at hj; omega) ?_
  refine ⟨(q, T, (xs (i + 1)).toInt, (xs (i + 2)).toInt), ⟨rfl, inR_i _, inR_i _, hX.1, hX.2.1⟩, ?_⟩
  rintro x M1 ⟨rfl, hx1, hx9, hx2, hF1⟩
  have hR1 := hR.fr (fun o ho => hF1 o (by omega))
  refine ⟨(zN Z, q, T, (xs (i + 1)).toInt, (xs (i + 2)).toInt), ⟨rfl, inR_i _, inR_i _, hR1.1, hR1.2.1⟩, ?_⟩
  rintro y M2 ⟨rfl, hr1, hr9, hr2, hF2⟩
  exact ⟨rfl, hE M2 ⟨_, _, O, W, _, (hX.m hx1 hx9 hx2 hF1).fr (fun o ho => hF2.1 o (Or.inl ho)), hR1.m hr1 hr9 hr2 hF2⟩⟩
set_option maxHeartbeats 2000000 in
theorem lc_fault (X : CX p s m args c code 4 RL (x0 :: BIG) Z) (S : LSc s Z b L xs) (hZ : ZOk Z) (hi : i + 5 < L) (hI : INV (zN Z) M) (hE : ∀ M2, INV (zN Z) M2 → LW p l e s m args below meth c Z Q 1139 (LC i) [] M2) : LW p l e s m args below meth c Z Q 965 (LC i) [] M := by
  obtain ⟨q, T, O, W, f, hX, hR⟩ := hI
  refine lw_case X S (js := []) (off := 166) (callOk_L (ix := 110) X (imX7_fault (l := l) hZ) (by decide) rfl mlL_110 iw_yX7_fault vw_yX7_fault nw_RX7 cw_yX7_fault ⟨by decide, by decide, by show _ = some 0; decide +kernel⟩ ⟨by decide, by decide⟩) (callOk_L (ix := 114) X (imX8_fault (l := l) hZ) (by decide) rfl mlL_114 iw_yX8_fault vw_yX8_fault nw_RX8 cw_yX8_fault ⟨by decide, by decide, by show _ = some 0; decide +kernel⟩ ⟨by decide, by decide⟩) (by decide +kernel) rfl rfl (fun j hj => absurd hj List.not_mem_nil) ?_
  refine ⟨(f, 0), ⟨rfl, hX.2.2.2.2⟩, ?_⟩
  rintro x M1 ⟨rfl, rfl⟩
  refine ⟨(x, 0), ⟨rfl, hR.2.2.2.2⟩, ?_⟩
  rintro y M2 ⟨rfl, rfl⟩
  exact ⟨rfl, hE _ ⟨q, T, O, W, _, hX, hR⟩⟩
set_option maxHeartbeats 2000000 in
theorem lc_text (X : CX p s m args c code 4 RL (x0 :: BIG) Z) (S : LSc s Z b L xs) (hZ : ZOk Z) (hi : i + 5 < L) (hI : INV (zN Z) M) (hE : ∀ M2, INV (zN Z) M2 → LW p l e s m args below meth c Z Q 1139 (LC i) [] M2) : LW p l e s m args below meth c Z Q 978 (LC i) [] M := by
  obtain ⟨q, T, O, W, f, hX, hR⟩ := hI
  refine lw_case X S (js := [1, 2]) (off := 133) (callOk_L (ix := 115) X (imX7_text (l := l) hZ) (by decide) rfl mlL_115 iw_yX7_text vw_yX7_text nw_RX7 cw_yX7_text ⟨by decide, by decide, by show _ = some 2; decide +kernel⟩ ⟨by decide, by decide⟩) (callOk_L (ix := 118) X (imX8_text (l := l) hZ) (by decide) rfl mlL_118 iw_yX8_text vw_yX8_text nw_RX8 cw_yX8_text ⟨by decide, by decide, by show _ = some 2; decide +kernel⟩ ⟨by decide, by decide⟩) (by decide +kernel) rfl rfl (by intro j hj; simp only [List.mem_cons, List.not_mem_nil, or_false] at hj; omega) ?_
  refine ⟨(q, O, (xs (i + 1)).toInt, (xs (i + 2)).toInt), ⟨rfl, inR_i _, inR_i _, hX.1, hX.2.2.1⟩, ?_⟩
  rintro x M1 ⟨rfl, hx3, hx1, hF1⟩
  have hR1 := hR.fr (fun o ho => hF1 o (by omega))
  refine ⟨(zN Z, q, O, (xs (i + 1)).toInt, (xs (i + 2)).toInt), ⟨rfl, inR_i _, inR_i _, hR1.1, hR1.2.2.1⟩, ?_⟩
  rintro y M2 ⟨rfl, hr3, hr1, hF2⟩
  exact ⟨rfl, hE M2 ⟨q, T, _, W, f, (hX.x hx3 hx1 hF1).fr (fun o ho => hF2.1 o (by omega) (by omega) (by omega) (by omega)), hR1.x hr3 hr1 hF2⟩⟩
set_option maxHeartbeats 2000000 in
theorem lc_out (X : CX p s m args c code 4 RL (x0 :: BIG) Z) (S : LSc s Z b L xs) (hZ : ZOk Z) (hi : i + 5 < L) (hI : INV (zN Z) M) (hE : ∀ M2, INV (zN Z) M2 → LW p l e s m args below meth c Z Q 1139 (LC i) [] M2) : LW p l e s m args below meth c Z Q 1011 (LC i) [] M := by
  obtain ⟨q, T, O, W, f, hX, hR⟩ := hI
  refine lw_case X S (js := [1]) (off := 110) (callOk_L (ix := 119) X (imX7_out (l := l) hZ) (by decide) rfl mlL_119 iw_yX7_out vw_yX7_out nw_RX7 cw_yX7_out ⟨by decide, by decide, by show _ = some 1; decide +kernel⟩ ⟨by decide, by decide⟩) (callOk_L (ix := 122) X (imX8_out (l := l) hZ) (by decide) rfl mlL_122 iw_yX8_out vw_yX8_out nw_RX8 cw_yX8_out ⟨by decide, by decide, by show _ = some 1; decide +kernel⟩ ⟨by decide, by decide⟩) (by decide +kernel) rfl rfl (by intro j hj; simp only [List.mem_cons, List.not_mem_nil, or_false] at hj; omega) ?_
  refine ⟨(O, (xs (i + 1)).toInt), ⟨rfl, inR_i _, hX.2.2.1⟩, ?_⟩
  rintro x M1 ⟨rfl, rfl⟩
  refine ⟨((xs (i + 1)).toInt, O.1), ⟨rfl, inR_i _, hR.2.2.1.1, hR.2.2.1.2.1⟩, ?_⟩
  rintro y M2 ⟨rfl, rfl⟩
  refine ⟨?_, hE _ ⟨q, T, O, W, f, hX, hR⟩⟩
  by_cases hc : 0 ≤ (xs (i + 1)).toInt ∧ (xs (i + 1)).toInt < (O.1 : Int)
  · rw [if_pos hc, if_pos hc, hR.2.2.1.2.2 _ (by omega)]
  · rw [if_neg hc, if_neg hc]
set_option maxHeartbeats 2000000 in
theorem lc_word (X : CX p s m args c code 4 RL (x0 :: BIG) Z) (S : LSc s Z b L xs) (hZ : ZOk Z) (hi : i + 5 < L) (hI : INV (zN Z) M) (hE : ∀ M2, INV (zN Z) M2 → LW p l e s m args below meth c Z Q 1139 (LC i) [] M2) : LW p l e s m args below meth c Z Q 1034 (LC i) [] M := by
  obtain ⟨q, T, O, W, f, hX, hR⟩ := hI
  refine lw_case X S (js := [1]) (off := 87) (callOk_L (ix := 123) X (imX7_word (l := l) hZ) (by decide) rfl mlL_123 iw_yX7_word vw_yX7_word nw_RX7 cw_yX7_word ⟨by decide, by decide, by show _ = some 1; decide +kernel⟩ ⟨by decide, by decide⟩) (callOk_L (ix := 126) X (imX8_word (l := l) hZ) (by decide) rfl mlL_126 iw_yX8_word vw_yX8_word nw_RX8 cw_yX8_word ⟨by decide, by decide, by show _ = some 1; decide +kernel⟩ ⟨by decide, by decide⟩) (by decide +kernel) rfl rfl (by intro j hj; simp only [List.mem_cons, List.not_mem_nil, or_false] at hj; omega) ?_
  refine ⟨(W, (xs (i + 1)).toInt), ⟨rfl, inR_i _, hX.2.2.2.1⟩, ?_⟩
  rintro x M1 ⟨rfl, hx1, hF1⟩
  have hR1 := hR.fr (fun o ho => hF1 o (by omega) (by omega))
  refine ⟨(zN Z, W, (xs (i + 1)).toInt), ⟨rfl, inR_i _, hR1.2.2.2.1⟩, ?_⟩
  rintro y M2 ⟨rfl, hr2, hF2⟩
  exact ⟨rfl, hE M2 ⟨q, T, O, _, f, (hX.w hx1 hF1).fr (fun o ho => hF2.1 o (by omega) (by omega)), hR1.w hr2 hF2⟩⟩
set_option maxHeartbeats 2000000 in
theorem lc_told (X : CX p s m args c code 4 RL (x0 :: BIG) Z) (S : LSc s Z b L xs) (hZ : ZOk Z) (hi : i + 5 < L) (hI : INV (zN Z) M) (hE : ∀ M2, INV (zN Z) M2 → LW p l e s m args below meth c Z Q 1139 (LC i) [] M2) : LW p l e s m args below meth c Z Q 1057 (LC i) [] M := by
  obtain ⟨q, T, O, W, f, hX, hR⟩ := hI
  refine lw_case X S (js := [1]) (off := 64) (callOk_L (ix := 127) X (imX7_told (l := l) hZ) (by decide) rfl mlL_127 iw_yX7_told vw_yX7_told nw_RX7 cw_yX7_told ⟨by decide, by decide, by show _ = some 1; decide +kernel⟩ ⟨by decide, by decide⟩) (callOk_L (ix := 130) X (imX8_told (l := l) hZ) (by decide) rfl mlL_130 iw_yX8_told vw_yX8_told nw_RX8 cw_yX8_told ⟨by decide, by decide, by show _ = some 1; decide +kernel⟩ ⟨by decide, by decide⟩) (by decide +kernel) rfl rfl (by intro j hj; simp only [List.mem_cons, List.not_mem_nil, or_false] at hj; omega) ?_
  refine ⟨(W, (xs (i + 1)).toInt), ⟨rfl, inR_i _, hX.2.2.2.1⟩, ?_⟩
  rintro x M1 ⟨rfl, rfl⟩
  refine ⟨((xs (i + 1)).toInt, W.1), ⟨rfl, inR_i _, hR.2.2.2.1.1.1, hR.2.2.2.1.1.2.1⟩, ?_⟩
  rintro y M2 ⟨rfl, rfl⟩
  refine ⟨?_, hE _ ⟨q, T, O, W, f, hX, hR⟩⟩
  unfold wA
  by_cases hc : 0 ≤ (xs (i + 1)).toInt ∧ (xs (i + 1)).toInt < (W.1 : Int)
  · rw [if_pos hc, if_pos hc, (hR.2.2.2.1.1.2.2 _ (by omega)).1]
  · rw [if_neg hc, if_neg hc]
set_option maxHeartbeats 2000000 in
theorem lc_clear (X : CX p s m args c code 4 RL (x0 :: BIG) Z) (S : LSc s Z b L xs) (hZ : ZOk Z) (hi : i + 5 < L) (hI : INV (zN Z) M) (hE : ∀ M2, INV (zN Z) M2 → LW p l e s m args below meth c Z Q 1139 (LC i) [] M2) : LW p l e s m args below meth c Z Q 1080 (LC i) [] M := by
  obtain ⟨q, T, O, W, f, hX, hR⟩ := hI
  refine lw_case X S (js := []) (off := 51) (callOk_L (ix := 131) X (imX7_clear (l := l) hZ) (by decide) rfl mlL_131 iw_yX7_clear vw_yX7_clear nw_RX7 cw_yX7_clear ⟨by decide, by decide, by show _ = some 0; decide +kernel⟩ ⟨by decide, by decide⟩) (callOk_L (ix := 134) X (imX8_clear (l := l) hZ) (by decide) rfl mlL_134 iw_yX8_clear vw_yX8_clear nw_RX8 cw_yX8_clear ⟨by decide, by decide, by show _ = some 0; decide +kernel⟩ ⟨by decide, by decide⟩) (by decide +kernel) rfl rfl (fun j hj => absurd hj List.not_mem_nil) ?_
  refine ⟨(W, 0), ⟨rfl, hX.2.2.2.1⟩, ?_⟩
  rintro x M1 ⟨rfl, hx1, hF1⟩
  have hR1 := hR.fr (fun o ho => hF1 o (by omega) (by omega))
  refine ⟨(W.1, 0), ⟨rfl, hR1.2.2.2.1.1.1⟩, ?_⟩
  rintro y M2 ⟨rfl, rfl⟩
  have hw2 : RW (zN Z) (up2 M1 50 18 0) (0, W.2) := ⟨⟨by rw [up2_s]; rfl, by omega, fun j hj => by change j < 0 at hj; omega⟩, by rw [up2_k (by omega)]; exact hR1.2.2.2.1.2.1, by show 0 ≤ _; omega, hR1.2.2.2.1.2.2.2⟩
  exact ⟨rfl, hE _ ⟨q, T, O, _, f, (hX.w hx1 hF1).fr (fun o ho => up2_i (by omega)), hR1.w hw2 ⟨fun o h1 h2 => up2_i h1, fun j hj => up2_k hj⟩⟩⟩
set_option maxHeartbeats 2000000 in
theorem lc_check (X : CX p s m args c code 4 RL (x0 :: BIG) Z) (S : LSc s Z b L xs) (hZ : ZOk Z) (hi : i + 5 < L) (hI : INV (zN Z) M) (hE : ∀ M2, INV (zN Z) M2 → LW p l e s m args below meth c Z Q 1139 (LC i) [] M2) : LW p l e s m args below meth c Z Q 1093 (LC i) [] M := by
  obtain ⟨q, T, O, W, f, hX, hR⟩ := hI
  refine lw_case X S (js := [1]) (off := 28) (callOk_L (ix := 135) X (imX7_check (l := l) hZ) (by decide) rfl mlL_135 iw_yX7_check vw_yX7_check nw_RX7 cw_yX7_check ⟨by decide, by decide, by show _ = some 1; decide +kernel⟩ ⟨by decide, by decide⟩) (callOk_L (ix := 138) X (imX8_check (l := l) hZ) (by decide) rfl mlL_138 iw_yX8_check vw_yX8_check nw_RX8 cw_yX8_check ⟨by decide, by decide, by show _ = some 1; decide +kernel⟩ ⟨by decide, by decide⟩) (by decide +kernel) rfl rfl (by intro j hj; simp only [List.mem_cons, List.not_mem_nil, or_false] at hj; omega) ?_
  refine ⟨(q, W, (xs (i + 1)).toInt), ⟨rfl, inR_i _, hX.1, hX.2.2.2.1⟩, ?_⟩
  rintro x M1 ⟨hxa, hx1, hx4, hF1⟩
  have hR1 := hR.fr (fun o ho => hF1 o (by omega))
  refine ⟨(zN Z, q, W, (xs (i + 1)).toInt), ⟨rfl, inR_i _, hR1.1, hR1.2.2.2.1⟩, ?_⟩
  rintro y M2 ⟨hya, hr1, hr4, hF2⟩
  exact ⟨CkA_one hxa hya, hE M2 ⟨_, T, O, _, f, (hX.c hx1 hx4 hF1).fr (fun o ho => hF2.1 o (Or.inl ho)), hR1.c hr1 hr4 hF2⟩⟩
set_option maxHeartbeats 2000000 in
theorem lc_prove (X : CX p s m args c code 4 RL (x0 :: BIG) Z) (S : LSc s Z b L xs) (hZ : ZOk Z) (hi : i + 5 < L) (hI : INV (zN Z) M) (hE : ∀ M2, INV (zN Z) M2 → LW p l e s m args below meth c Z Q 1139 (LC i) [] M2) : LW p l e s m args below meth c Z Q 1116 (LC i) [] M := by
  obtain ⟨q, T, O, W, f, hX, hR⟩ := hI
  refine lw_case X S (js := [1]) (off := 5) (callOk_L (ix := 139) X (imX7_prove (l := l) hZ) (by decide) rfl mlL_139 iw_yX7_prove vw_yX7_prove nw_RX7 cw_yX7_prove ⟨by decide, by decide, by show _ = some 1; decide +kernel⟩ ⟨by decide, by decide⟩) (callOk_L (ix := 142) X (imX8_prove (l := l) hZ) (by decide) rfl mlL_142 iw_yX8_prove vw_yX8_prove nw_RX8 cw_yX8_prove ⟨by decide, by decide, by show _ = some 1; decide +kernel⟩ ⟨by decide, by decide⟩) (by decide +kernel) rfl rfl (by intro j hj; simp only [List.mem_cons, List.not_mem_nil, or_false] at hj; omega) ?_
  refine ⟨(q, W, (xs (i + 1)).toInt), ⟨rfl, inR_i _, hX.1, hX.2.2.2.1⟩, ?_⟩
  rintro x M1 ⟨rfl, hx4, hx1, hF1⟩
  have hR1 := hR.fr (fun o ho => hF1 o (by omega))
  refine ⟨(zN Z, q, W, (xs (i + 1)).toInt), ⟨rfl, inR_i _, hR1.1, hR1.2.2.2.1⟩, ?_⟩
  rintro y M2 ⟨rfl, hr4, hr1, hF2⟩
  exact ⟨rfl, hE M2 ⟨q, T, O, _, f, (hX.p hx4 hx1 hF1).fr (fun o ho => hF2.1 o (by omega) (by omega) (by omega)), hR1.p hr4 hr1 hF2⟩⟩
end CASES
