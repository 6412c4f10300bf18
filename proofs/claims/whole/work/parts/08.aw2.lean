/-! ===== fields, rows, calls ===== -/
section SNE
variable {p : Program} {l : Launch} {e : Env} {R : Room} {s : State} {m : MethodId} {args : Array Value} {below : List Frame} {meth : Method} {c : Code} {Q : State → Prop} {cc : ByteArray} {nL : Nat} {own : String} {Ts : List Jvm.Cond} {Z : ZT}
variable {pc : Nat} {lc : Lc} {st : List AV} {M : Mem}
/-- a field's words -/
def FldW (own : String) (Ts : List Jvm.Cond) (ix ci k : Nat) : Prop := ci < 9 ∧ k < nfF ci ∧ (∀ w ∈ BIG, w ∈ Ts) ∧ Jvm.Cond.fieldLink own ix (ttF ci k).1 (ttF ci k).2.1 (ttF ci k).2.2.1 ∈ Ts
theorem kd9 {o ci : Nat} (h : kdF o = ci) (h9 : ci < 9) : o < 67 := kdF_lt (by omega)
theorem aw_getr (X : CX p s m args c cc nL own Ts Z) {ix ci k o : Nat} (hf : FldW own Ts ix ci k) (hr : isRefT (tyF ci k) = true) (ho : kdF o = ci) (hd : decode cc pc = .ok (.getfield ix, 3)) (h : AW p l e R s m args below meth c nL Z Q (pc + 3) lc (.inr (.inr (rfF o k)) :: st) M) : AW p l e R s m args below meth c nL Z Q pc lc (.inr (.inr o) :: st) M := by
  intro H locs ls hl hP hS
  obtain ⟨h9, hk, hT, hw⟩ := hf
  obtain ⟨q1, q2, q3, q4⟩ := kindF ci h9
  subst ho
  refine va_get X.1 X.2.1 X.2.2.2.2.1 (fun w h => hT w (q2 w h)) X.2.2.2.1 X.2.2.2.2.2.1 hP o ((wldF_at Z M (kd9 rfl h9)).trans (by rw [cellF_o Z M (by omega)])) q1 k hk (X.2.2.2.2.1 _ hw) (fun _ h9 => h9) (v := cvF Z (.inr (.inr (rfF o k)))) ?_ hd (h H locs ls hl hP hS)
  rw [List.getElem?_map, List.getElem?_range hk]
  simp [fldF, hr, cvF]
theorem aw_geti (X : CX p s m args c cc nL own Ts Z) {ix ci k o : Nat} (hf : FldW own Ts ix ci k) (hr : isRefT (tyF ci k) = false) (ho : kdF o = ci) (hd : decode cc pc = .ok (.getfield ix, 3)) (h : AW p l e R s m args below meth c nL Z Q (pc + 3) lc (.inl (M o k) :: st) M) : AW p l e R s m args below meth c nL Z Q pc lc (.inr (.inr o) :: st) M := by
  intro H locs ls hl hP hS
  obtain ⟨h9, hk, hT, hw⟩ := hf
  obtain ⟨q1, q2, q3, q4⟩ := kindF ci h9
  subst ho
  refine va_get X.1 X.2.1 X.2.2.2.2.1 (fun w h => hT w (q2 w h)) X.2.2.2.1 X.2.2.2.2.2.1 hP o ((wldF_at Z M (kd9 rfl h9)).trans (by rw [cellF_o Z M (by omega)])) q1 k hk (X.2.2.2.2.1 _ hw) (fun _ h9 => h9) (v := cvF Z (.inl (M o k))) ?_ hd (h H locs ls hl hP hS)
  rw [List.getElem?_map, List.getElem?_range hk]
  simp [fldF, hr, cvF]
theorem nar_z {x : Int} (h : x = 0 ∨ x = 1) : narrow .boolean (.int (Int32.ofInt x)) = .int (Int32.ofInt x) ∧ fits .boolean (.int (Int32.ofInt x)) = true := by
  rcases h with rfl | rfl <;> decide
theorem aw_puti (X : CX p s m args c cc nL own Ts Z) {ix ci k o : Nat} {x : Int} (hf : FldW own Ts ix ci k) (hfin : (ttF ci k).2.2.2 = false) (hty : tyF ci k = .int ∨ (tyF ci k = .boolean ∧ (x = 0 ∨ x = 1))) (ho : kdF o = ci) (hd : decode cc pc = .ok (.putfield ix, 3)) (h : AW p l e R s m args below meth c nL Z Q (pc + 3) lc st (up2 M o k x)) : AW p l e R s m args below meth c nL Z Q pc lc (.inl x :: .inr (.inr o) :: st) M := by
  intro H locs ls hl hP hS
  obtain ⟨h9, hk, hT, hw⟩ := hf
  obtain ⟨q1, q2, q3, q4⟩ := kindF ci h9
  have hr : isRefT (tyF ci k) = false := by
    rcases hty with e | ⟨e, -⟩ <;> rw [e] <;> rfl
  have hn : narrow (tyF ci k) (.int (Int32.ofInt x)) = .int (Int32.ofInt x) ∧ fits (tyF ci k) (.int (Int32.ofInt x)) = true := by
    rcases hty with e | ⟨e, h01⟩
    · rw [e]; exact ⟨rfl, rfl⟩
    · rw [e]; exact nar_z h01
  subst ho
  have h6 := kd9 (o := o) rfl h9
  refine va_put (fs := (List.range (nfF (kdF o))).map (fldF Z M o)) X.1 X.2.1 X.2.2.2.2.1 (fun w h => hT w (q2 w h)) (tyF (kdF o)) q3 q4 X.2.2.2.1 X.2.2.2.2.2.1 hP (X.2.2.2.2.2.2.D M) hS o ((wldF_at Z M h6).trans (by rw [cellF_o Z M (by omega)])) q1 k hk (X.2.2.2.2.1 _ hw) (fun _ h9 => h9) hfin (q3 k hk) hn.1 hn.2 (by simpa using hk) hd (fun H1 locs1 a1 a2 a3 => ?_)
  have a1 : va_P Z.1 vwCl ((wldF Z M).set o (zA Z o, .inr (kdF o, ((List.range (nfF (kdF o))).map (fldF Z M o)).set k (.int (Int32.ofInt x))))) H1 := a1
  rw [wldF_set Z M (up2 M o k x) h6 (cellF_fld Z M x (by omega) hk hr) (fun i _ hi => cellF_congr Z (up2_i hi))] at a1
  exact h H1 locs1 ls hl a1 a3
theorem ix_of {i : Int} {n : Nat} (hn : n < 2147483648) (h0 : 0 ≤ i) (h1 : i < (n : Int)) : vp_in (Int32.ofInt i) n ∧ (Int32.ofInt i).toNatClampNeg = i.toNat := by
  have hi : inR i := ⟨by omega, by omega⟩
  constructor
  · rw [vp_in_iff, inR_to hi]; exact ⟨h0, h1⟩
  · rw [Int32.toNatClampNeg, inR_to hi]
theorem aw_iald (X : CX p s m args c cc nL own Ts Z) {i : Int} {a : Nat} (hn : lnF (zN Z) a < 2147483648) (hc : kdF a = 100 ∧ 0 ≤ i ∧ i < (lnF (zN Z) a : Int)) (hd : decode cc pc = .ok (.iaload, 1)) (h : AW p l e R s m args below meth c nL Z Q (pc + 1) lc (.inl (M a i.toNat) :: st) M) : AW p l e R s m args below meth c nL Z Q pc lc (.inl i :: .inr (.inr a) :: st) M := by
  intro H locs ls hl hP hS
  obtain ⟨g1, g2⟩ := ix_of hn hc.2.1 hc.2.2
  have h := h H locs ls hl hP hS
  refine va_iald X.1 X.2.1 X.2.2.2.2.2.1 hP a 0 ((wldF_at Z M (kdF_lt (by omega))).trans (by rw [cellF_i Z M hc.1])) rfl g1 hd ?_
  rw [g2]
  exact h
theorem aw_zald (X : CX p s m args c cc nL own Ts Z) {i : Int} {a : Nat} (hn : lnF (zN Z) a < 2147483648) (hc : kdF a = 101 ∧ 0 ≤ i ∧ i < (lnF (zN Z) a : Int)) (hd : decode cc pc = .ok (.baload, 1)) (h : AW p l e R s m args below meth c nL Z Q (pc + 1) lc (.inl (M a i.toNat) :: st) M) : AW p l e R s m args below meth c nL Z Q pc lc (.inl i :: .inr (.inr a) :: st) M := by
  intro H locs ls hl hP hS
  obtain ⟨g1, g2⟩ := ix_of hn hc.2.1 hc.2.2
  have h := h H locs ls hl hP hS
  refine va_zald X.1 X.2.1 X.2.2.2.2.2.1 hP a 1 ((wldF_at Z M (kdF_lt (by omega))).trans (by rw [cellF_z Z M hc.1])) rfl g1 hd ?_
  rw [g2]
  exact h
theorem aw_iast (X : CX p s m args c cc nL own Ts Z) {i x : Int} {a : Nat} (hn : lnF (zN Z) a < 2147483648) (hc : kdF a = 100 ∧ 0 ≤ i ∧ i < (lnF (zN Z) a : Int)) (hd : decode cc pc = .ok (.iastore, 1)) (h : AW p l e R s m args below meth c nL Z Q (pc + 1) lc st (up2 M a i.toNat x)) : AW p l e R s m args below meth c nL Z Q pc lc (.inl x :: .inl i :: .inr (.inr a) :: st) M := by
  intro H locs ls hl hP hS
  obtain ⟨g1, g2⟩ := ix_of hn hc.2.1 hc.2.2
  have h6 : a < 67 := kdF_lt (by omega)
  refine va_iast X.1 X.2.1 X.2.2.2.2.2.1 hP (X.2.2.2.2.2.2.D M) hS a 0 ((wldF_at Z M h6).trans (by rw [cellF_i Z M hc.1])) rfl g1 hd (fun H1 locs1 a1 a2 a3 => ?_)
  rw [g2, wldF_set Z M (up2 M a i.toNat x) h6 (cellF_row Z M x hc.1) (fun i _ hi => cellF_congr Z (up2_i hi))] at a1
  exact h H1 locs1 ls hl a1 a3
theorem vpn_z {x : Int} (h : x = 0 ∨ x = 1) : vp_nar .boolean (Int32.ofInt x) = Int32.ofInt x := by
  rcases h with rfl | rfl <;> decide
theorem aw_zast (X : CX p s m args c cc nL own Ts Z) {i x : Int} {a : Nat} (hn : lnF (zN Z) a < 2147483648) (hc : kdF a = 101 ∧ 0 ≤ i ∧ i < (lnF (zN Z) a : Int) ∧ (x = 0 ∨ x = 1)) (hd : decode cc pc = .ok (.bastore, 1)) (h : AW p l e R s m args below meth c nL Z Q (pc + 1) lc st (up2 M a i.toNat x)) : AW p l e R s m args below meth c nL Z Q pc lc (.inl x :: .inl i :: .inr (.inr a) :: st) M := by
  intro H locs ls hl hP hS
  obtain ⟨g1, g2⟩ := ix_of hn hc.2.1 hc.2.2.1
  have h6 : a < 67 := kdF_lt (by omega)
  refine va_zast X.1 X.2.1 X.2.2.2.2.2.1 hP (X.2.2.2.2.2.2.D M) hS a 1 ((wldF_at Z M h6).trans (by rw [cellF_z Z M hc.1])) rfl g1 hd (fun H1 locs1 a1 a2 a3 => ?_)
  rw [g2, vpn_z hc.2.2.2, wldF_set Z M (up2 M a i.toNat x) h6 (cellF_rowZ Z M x hc.1) (fun i _ hi => cellF_congr Z (up2_i hi))] at a1
  exact h H1 locs1 ls hl a1 a3
theorem aw_alen (X : CX p s m args c cc nL own Ts Z) {a : Nat} (hc : kdF a = 100) (hd : decode cc pc = .ok (.arraylength, 1)) (h : AW p l e R s m args below meth c nL Z Q (pc + 1) lc (.inl (lnF (zN Z) a : Int) :: st) M) : AW p l e R s m args below meth c nL Z Q pc lc (.inr (.inr a) :: st) M := by
  intro H locs ls hl hP hS
  exact va_alen (x := (lnF (zN Z) a, .inl (fun j => Int32.ofInt (M a j)))) (v := Int32.ofInt (lnF (zN Z) a : Int)) X.1 X.2.1 X.2.2.2.2.2.1 hP a 0 ((wldF_at Z M (kdF_lt (by omega))).trans (by rw [cellF_i Z M hc])) rfl Int32.ofInt_eq_ofNat.symm hd (h H locs ls hl hP hS)
/-- arraycopy between rows of ints -/
theorem aw_copy (X : CX p s m args c cc nL own Ts Z) {ix : Nat} {sp dp n : Int} {a b : Nat} (hw : Jvm.Cond.methodLink own ix arraycopyName ∈ Ts ∧ Jvm.Cond.native arraycopyName ∈ Ts ∧ Jvm.Cond.static arraycopyName ∈ Ts ∧ Jvm.Cond.initialized "java/lang/System" ∈ Ts) (hna : lnF (zN Z) a < 2147483648) (hnb : lnF (zN Z) b < 2147483648) (hR : 1 ≤ R.frames ∧ 40 ≤ R.locals) (hst : catA st ≤ 8)
    (hc : kdF a = 100 ∧ kdF b = 100 ∧ 0 ≤ sp ∧ 0 ≤ dp ∧ 0 ≤ n ∧ sp + n ≤ (lnF (zN Z) a : Int) ∧ dp + n ≤ (lnF (zN Z) b : Int)) (hd : decode cc pc = .ok (.invokestatic ix, 3)) (h : AW p l e R s m args below meth c nL Z Q (pc + 3) lc st (va_up M b (va_cpy (M a) (M b) sp.toNat dp.toNat n.toNat))) :
    AW p l e R s m args below meth c nL Z Q pc lc (.inl n :: .inl dp :: .inr (.inr b) :: .inl sp :: .inr (.inr a) :: st) M := by
  intro H locs ls hl hP hS
  obtain ⟨c1, c2, c3, c4, c5, c6, c7⟩ := hc
  have t1 : ∀ z : Int, 0 ≤ z → z < 2147483648 → (Int32.ofInt z).toNatClampNeg = z.toNat ∧ ¬ Int32.ofInt z < 0 := by
    intro z h0 h1
    have hz : inR z := ⟨by omega, h1⟩
    refine ⟨by rw [Int32.toNatClampNeg, inR_to hz], fun hlt => ?_⟩
    have := (inR_lt hz inR_0).mp hlt
    omega
  obtain ⟨s1, s2⟩ := t1 sp c3 (by omega)
  obtain ⟨d1, d2⟩ := t1 dp c4 (by omega)
  obtain ⟨n1, n2⟩ := t1 n c5 (by omega)
  have h6 : b < 67 := kdF_lt (by omega)
  have hcat : ((st.map (cvF Z)).map fun v => v.category).sum = catA st := by
    clear h hst
    induction st with
    | nil => rfl
    | cons v r ih =>
      rcases v with x | x | x
      · simp [cvF, Value.category, catA, ih] at *; omega
      · simp [cvF, Value.category, catA, ih] at *; omega
      · simp [cvF, Value.category, catA, ih] at *; omega
  have hml : c.maxLocals = ls.size := by rw [X.2.2.1]; obtain ⟨-, lv, h1, -⟩ := hl; exact h1.1.symm
  have hlo : ((st.map (cvF Z)).map fun v => v.category).sum + (nativeFrameWords "java/lang/System" "arraycopy" 5 + 11) ≤ R.locals := by
    rw [hcat]
    have h32 : nativeFrameWords "java/lang/System" "arraycopy" 5 + 11 ≤ 32 := by decide
    have := hR.2
    omega
  refine va_copyi X.1 X.2.1 hml X.2.2.2.1 (X.2.2.2.2.1 _ hw.1) (X.2.2.2.2.1 _ hw.2.1) (X.2.2.2.2.1 _ hw.2.2.1) (X.2.2.2.2.1 _ hw.2.2.2) X.2.2.2.2.2.1 hP (X.2.2.2.2.2.2.D M) hS a b 0 0 ((wldF_at Z M (kdF_lt (by omega))).trans (by rw [cellF_i Z M c1])) ((wldF_at Z M h6).trans (by rw [cellF_i Z M c2])) rfl rfl rfl s2 d2 n2 (by rw [s1, n1]; omega) (by rw [d1, n1]; omega) (fun _ _ => rfl) hR.1 hlo hd (fun H1 locs1 a1 a2 a3 => ?_)
  rw [s1, d1, n1, wldF_set Z M (va_up M b (va_cpy (M a) (M b) sp.toNat dp.toNat n.toNat)) h6 ?_ (fun i _ hi => cellF_congr Z (va_up_ne _ _ hi))] at a1
  · exact h H1 locs1 ls hl a1 a3
  · rw [cellF_i Z _ c2, va_up_self]
    congr 4
    funext j
    unfold va_cpy
    split <;> rfl
end SNE
