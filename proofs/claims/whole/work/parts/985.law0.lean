/-! ===== the law's own walk: its judgement, its calls, one case of its switch ===== -/
def LW (p : Program) (l : Launch) (e : Env) (s : State) (m : MethodId) (args : Array Value) (below : List Frame) (meth : Method) (c : Code) (Z : ZT) (Q : State → Prop) : Kt := fun pc lc st M =>
  ∀ (H : Heap) (locs : List Loc) (ls : Array Slot), LH Z ls 4 lc → va_P Z.1 vwCl (wldF Z M) H → va_S (zB Z) s.heap H locs → W p l e room_1 s m args below meth c H locs 600000 7302250 Q (F0 m pc ls (st.map (cvF Z)))
section LAW
variable {p : Program} {l : Launch} {e : Env} {s : State} {m : MethodId} {args : Array Value} {below : List Frame} {meth : Method} {c : Code} {Q : State → Prop} {x0 : Jvm.Cond} {Z : ZT}
variable {pc : Nat} {lc : Lc} {st : List AV} {M : Mem} {b L : Nat} {xs : Nat → Int32}
theorem callOk_L {d' maxL kd ix : Nat} {y : MethodName} {cc' : ByteArray} {ret : Option FieldType} {k : Call} (X : CX p s m args c code 4 RL (x0 :: BIG) Z) (hI : Impl l Z y cc' maxL ret d' k) (hk : kd < 9) (hyc : y.cls = tnF kd) (hml : Jvm.Cond.methodLink RL ix y ∈ BIG) (hiw : Jvm.Cond.instanceMethod y ∈ BIG) (hvw : Jvm.Cond.selects y.cls y y ∈ BIG) (hnw : Jvm.Cond.initialized y.cls ∈ BIG) (hcw : Jvm.Cond.code y cc' maxL ret ∈ BIG)
    (hd : y.cls ≠ "java/lang/invoke/MethodHandle" ∧ y.cls ≠ "java/lang/invoke/VarHandle" ∧ (parseMethodDescriptor y.desc).map (fun d => d.parameters.length) = some (k.2.1 - 1)) (hlev : d' ≤ 100 ∧ maxL ≤ 45) :
    CallOk (LW p l e s m args below meth c Z Q) code (ix, some kd, k) := by
  intro pc lc vs rest M hdec hrc hlen hcat hnl g hpre haft
  match vs, hrc, hlen, hnl, hpre, haft with
  | .inr (.inr o) :: vs', hrc, hlen, hnl, hpre, haft =>
  intro H locs ls hl hP hS
  have hst : (((.inr (.inr o) : AV) :: vs').reverse ++ rest).map (cvF Z) = (vs'.map (cvF Z)).reverse ++ .ref (zA Z o) :: rest.map (cvF Z) := by
    simp [cvF]
  rw [hst]
  have hM := hI g (.inr (.inr o) :: vs') M hlen hnl hpre
  have hlsz : ls.size = 4 := by obtain ⟨-, lv, h1, -⟩ := hl; exact h1.1
  have hG : GoodIn (x0 :: BIG) (wsV RL ix y.cls y (WSy y cc' maxL ret)) := good_big (fun w hw => by
    rcases List.mem_append.mp hw with hw | hw
    · simp only [List.mem_cons, List.not_mem_nil, or_false] at hw
      rcases hw with rfl | rfl | rfl | rfl <;> assumption
    · rcases List.mem_cons.mp hw with rfl | hw
      · exact hcw
      · exact hw)
  have hcw2 : CallW room_1 s args RL y.cls ix y cc' maxL ret (WSy y cc' maxL ret) (rmd d') 0 0 (k.2.1 - 1) := cwV (k.2.1 - 1) X.2.2.2.2.1 hG rfl rfl rfl ⟨rfl, hd⟩ ⟨by show d' + 1 ≤ 2048; omega, by have := hlev.1; have := hlev.2; show 8 + (maxL + 11) + 64 * d' ≤ 84000; omega⟩
  have h6 : o < 67 := kdF_lt (by have : kdF o = kd := hrc; omega)
  have hrecv : ∃ cellB : Cell, H[zA Z o]? = some cellB ∧ cellB.vm.isStatics = false ∧ s.vm.findClass y.cls = some cellB.cls := by
    have hrc : kdF o = kd := hrc
    have := va_recv X.2.2.2.2.2.1 hP (kindF kd hk).1 (q0 := o) (a := zA Z o) (fs := (List.range (nfF (kdF o))).map (fldF Z M o)) ((wldF_at Z M h6).trans (by rw [cellF_o Z M (by omega), hrc]))
    rw [hyc]
    exact this
  have hpv : PreV s H y.cls (zA Z o) (va_Pc (((.inr (.inr o) : AV) :: vs').map (cvF Z)) (GWd Z M)) (vs'.map (cvF Z)) := ⟨gw_blind, hrecv, fun U hU hW => ⟨rfl, by rw [hU]; exact hP, va_K.moved hW.alike X.2.2.2.2.2.1⟩⟩
  obtain ⟨G, kn, kp, kq⟩ := k
  have hlv : (vs'.map (cvF Z)).length = kn - 1 := by have : (vs'.length + 1) = kn := hlen; simp; omega
  have hrun := va_runV (R := room_1) (g := F0 m pc ls ((vs'.map (cvF Z)).reverse ++ .ref (zA Z o) :: rest.map (cvF Z))) (As := vs'.map (cvF Z)) (rest := rest.map (cvF Z)) (locs := locs) (cells := 600000) (slots := 7302250) (below := below) (e := e) (meth := meth) (H := H) ⟨X.1, X.2.1, X.2.2.1, X.2.2.2.1, X.2.2.2.2.1⟩ hM hcw2 hpv rfl hlv hlsz rfl (lv_room (by rw [cat_sum]; exact hcat)) hdec ⟨Nat.le_refl _, Nat.le_refl _⟩
  cases kq with
  | inl pv =>
    refine va_callv (a := (((.inr (.inr o) : AV) :: vs').map (cvF Z)).toArray) hrun hS (fun q _ h => h) (fun q h => h) (fun u t H1 locs1 ht hvm hw hB hz hk1 hS1 => ?_)
    rw [ht] at hB
    exact haft u hw H1 locs1 ls hl hB.1 hS1
  | inr pi =>
    refine va_calli (a := (((.inr (.inr o) : AV) :: vs').map (cvF Z)).toArray) hrun hS (fun q _ h => h) (fun q h => h) (fun r u t H1 locs1 ht hvm hw hB hz hk1 hS1 => ?_)
    rw [ht] at hB
    have := haft u.1 u.2 hw.2 H1 locs1 ls hl hB.1 hS1
    rw [hw.1]
    exact this
abbrev LC (i : Nat) : Lc := [some (.inr (.inr 67)), some (.inr (.inr 0)), some (.inr (.inr 50)), some (.inl (i : Int))]
/-- the script, where the walk reads it -/
def LSc (s : State) (Z : ZT) (b L : Nat) (xs : Nat → Int32) : Prop := va_X b L xs s s.heap ∧ b < s.heap.size ∧ ¬ zB Z b ∧ zA Z 67 = b ∧ L ≤ 3075
abbrev xA (xs : Nat → Int32) (i : Nat) : AV := .inl (xs i).toInt
theorem ofInt_nat {k : Nat} (h : k ≤ 20000) : Int32.ofInt (k : Int) = Int32.ofNat k := Int32.ofInt_eq_ofNat
def blksB : Nat → List Nat → Bool
  | _, [] => true
  | pc, j :: r => (decide (decode code pc = .ok (.aload_n 0, 1)) && (decide (decode code (pc + 1) = .ok (.iload_n 3, 1)) && (decide (decode code (pc + 2) = .ok (.iconst (j : Int), 1)) && (decide (decode code (pc + 3) = .ok (.iadd, 1)) && decide (decode code (pc + 4) = .ok (.iaload, 1)))))) && blksB (pc + 5) r
theorem lw_read (X : CX p s m args c code 4 RL (x0 :: BIG) Z) (S : LSc s Z b L xs) {k : Nat} (hk : k < L) (hd : decode code pc = .ok (.iaload, 1)) (h : LW p l e s m args below meth c Z Q (pc + 1) lc (xA xs k :: st) M) : LW p l e s m args below meth c Z Q pc lc (.inl (k : Int) :: .inr (.inr 67) :: st) M := by
  intro H locs ls hl hP hS
  have hkL := S.2.2.2.2
  have e1 : (((.inl (k : Int) : AV) :: .inr (.inr 67) :: st).map (cvF Z)) = .int (Int32.ofNat k) :: .ref b :: st.map (cvF Z) := by
    simp only [List.map_cons, cvF]
    rw [S.2.2.2.1, ofInt_nat (by omega)]
  rw [e1]
  have ek : (Int32.ofNat k).toNatClampNeg = k := (ofNat_big (by omega)).2
  refine va_sld X.1 X.2.1 S.1 S.2.1 S.2.2.1 hS (i := Int32.ofNat k) (fun hc => ?_) hd ?_
  · rcases hc with hc | hc
    · exact (ofNat_big (by omega)).1 hc
    · rw [ek] at hc; omega
  · rw [ek]
    have := h H locs ls hl hP hS
    rw [List.map_cons, show cvF Z (xA xs k) = .int (xs k) by show Value.int (Int32.ofInt (xs k).toInt) = _; rw [Int32.ofInt_toInt]] at this
    exact this
theorem lw_args (X : CX p s m args c code 4 RL (x0 :: BIG) Z) (S : LSc s Z b L xs) {i : Nat} : ∀ (js : List Nat) (pc : Nat) (st : List AV), blksB pc js = true → (∀ j ∈ js, i + j < L) → LW p l e s m args below meth c Z Q (pc + 5 * js.length) (LC i) ((js.map (fun j => xA xs (i + j))).reverse ++ st) M → LW p l e s m args below meth c Z Q pc (LC i) st M := by
  intro js
  induction js with
  | nil => intro pc st _ _ h; simpa using h
  | cons j r ih =>
    intro pc st hb hj h
    unfold blksB at hb
    simp only [Bool.and_eq_true, decide_eq_true_eq] at hb
    obtain ⟨⟨d1, d2, d3, d4, d5⟩, hr⟩ := hb
    have hlt := hj j List.mem_cons_self
    have key : LW p l e s m args below meth c Z Q (pc + 5) (LC i) (xA xs (i + j) :: st) M := by
      refine ih (pc + 5) (xA xs (i + j) :: st) hr (fun a ha => hj a (List.mem_cons_of_mem _ ha)) ?_
      have e1 : pc + 5 + 5 * r.length = pc + 5 * (j :: r).length := by rw [List.length_cons]; omega
      rw [e1]
      have e2 : (r.map (fun j => xA xs (i + j))).reverse ++ xA xs (i + j) :: st = ((j :: r).map (fun j => xA xs (i + j))).reverse ++ st := by simp
      rw [e2]
      exact h
    have k4 := lw_read X S (pc := pc + 4) (k := i + j) hlt d5 key
    intro H locs ls hl hP hS
    refine lv_aload_n X.1 X.2.1 d1 rfl (LH.get hl (j := 0) rfl) ?_
    refine lv_iload_n X.1 X.2.1 d2 rfl (LH.get hl (j := 3) rfl) ?_
    refine lv_iconst X.1 X.2.1 d3 rfl ?_
    refine lv_iadd X.1 X.2.1 d4 ?_
    have := k4 H locs ls hl hP hS
    rw [List.map_cons, List.map_cons, show cvF Z (.inl ((i + j : Nat) : Int)) = .int (Int32.ofInt (i : Int) + Int32.ofInt (j : Int)) by rw [← Int32.ofInt_add]; rfl] at this
    exact this
def caB (pc : Nat) (js : List Nat) (a1 b1 : Nat) (off : Int) : Bool := decide (decode code pc = .ok (.aload_n 1, 1)) && (blksB (pc + 1) js && (decide (decode code (pc + 1 + 5 * js.length) = .ok (.invokevirtual a1, 3)) && (decide (decode code (pc + 1 + 5 * js.length + 3) = .ok (.aload_n 2, 1)) && (blksB (pc + 1 + 5 * js.length + 3 + 1) js && (decide (decode code (pc + 1 + 5 * js.length + 3 + 1 + 5 * js.length) = .ok (.invokevirtual b1, 3)) && (decide (decode code (pc + 1 + 5 * js.length + 3 + 1 + 5 * js.length + 3) = .ok (.if_icmp .eq off, 3)) && decide (((pc + 1 + 5 * js.length + 3 + 1 + 5 * js.length + 3 : Nat) : Int) + off = ((1139 : Nat) : Int))))))))
/-- one case: the same call of both sides, then the comparison -/
theorem lw_case (X : CX p s m args c code 4 RL (x0 :: BIG) Z) (S : LSc s Z b L xs) {i : Nat} {js : List Nat} {a1 b1 : Nat} {off : Int} {GA GB : Type} {nA nB : Nat} {pA : GA → List AV → Mem → Prop} {qA : GA → List AV → Mem → Int → Mem → Prop} {pB : GB → List AV → Mem → Prop} {qB : GB → List AV → Mem → Int → Mem → Prop}
    (hA : CallOk (LW p l e s m args below meth c Z Q) code (a1, some 7, (⟨GA, nA, pA, .inr qA⟩ : Call))) (hB : CallOk (LW p l e s m args below meth c Z Q) code (b1, some 8, (⟨GB, nB, pB, .inr qB⟩ : Call))) (hc : caB pc js a1 b1 off = true) (hnA : js.length + 1 = nA) (hnB : js.length + 1 = nB) (h5 : ∀ j ∈ js, i + j < L)
    (h : ∃ gA : GA, pA gA (.inr (.inr 0) :: js.map (fun j => xA xs (i + j))) M ∧ ∀ (x : Int) (M1 : Mem), qA gA (.inr (.inr 0) :: js.map (fun j => xA xs (i + j))) M x M1 → ∃ gB : GB, pB gB (.inr (.inr 50) :: js.map (fun j => xA xs (i + j))) M1 ∧ ∀ (y : Int) (M2 : Mem), qB gB (.inr (.inr 50) :: js.map (fun j => xA xs (i + j))) M1 y M2 → x = y ∧ LW p l e s m args below meth c Z Q 1139 (LC i) [] M2) :
    LW p l e s m args below meth c Z Q pc (LC i) [] M := by
  unfold caB at hc
  simp only [Bool.and_eq_true, decide_eq_true_eq] at hc
  obtain ⟨d1, d2, d3, d4, d5, d6, d7, d8⟩ := hc
  have nl : ∀ (o : Nat) (r : List Nat), noLng ((.inr (.inr o) : AV) :: r.map (fun j => xA xs (i + j))) = true := by
    intro o r
    have : ∀ r : List Nat, noLng (r.map (fun j => xA xs (i + j))) = true := by
      intro r
      induction r with
      | nil => rfl
      | cons a t ih => exact ih
    exact this r
  obtain ⟨gA, hpA, hqA⟩ := h
  have kA : LW p l e s m args below meth c Z Q (pc + 1) (LC i) [.inr (.inr 0)] M := by
    refine lw_args X S js (pc + 1) [.inr (.inr 0)] d2 h5 ?_
    have := hA (pc + 1 + 5 * js.length) (LC i) (.inr (.inr 0) :: js.map (fun j => xA xs (i + j))) [] M d3 rfl (by simp; omega) (by simp [catA]) (nl 0 js) gA hpA ?_
    · simpa using this
    · intro x M1 hq1
      obtain ⟨gB, hpB, hqB⟩ := hqA x M1 hq1
      have k2 : LW p l e s m args below meth c Z Q (pc + 1 + 5 * js.length + 3 + 1) (LC i) [.inr (.inr 50), .inl x] M1 := by
        refine lw_args X S js (pc + 1 + 5 * js.length + 3 + 1) [.inr (.inr 50), .inl x] d5 h5 ?_
        have := hB (pc + 1 + 5 * js.length + 3 + 1 + 5 * js.length) (LC i) (.inr (.inr 50) :: js.map (fun j => xA xs (i + j))) [.inl x] M1 d6 rfl (by simp; omega) (by simp [catA]) (nl 50 js) gB hpB ?_
        · simpa using this
        · intro y M2 hq2
          obtain ⟨e1, h9⟩ := hqB y M2 hq2
          subst e1
          intro H locs ls hl hP hS
          exact lv_icmp_eq X.1 X.2.1 d7 d8 (fun _ => h9 H locs ls hl hP hS) (fun hne => absurd rfl hne)
      intro H locs ls hl hP hS
      exact lv_aload_n X.1 X.2.1 d4 rfl (LH.get hl (j := 2) rfl) (k2 H locs ls hl hP hS)
  intro H locs ls hl hP hS
  exact lv_aload_n X.1 X.2.1 d1 rfl (LH.get hl (j := 1) rfl) (kA H locs ls hl hP hS)
theorem lw_sw (X : CX p s m args c code 4 RL (x0 :: BIG) Z) {d lo hi : Int} {os : Array Int} {len dt : Nat} {ts : List Nat} {x : Int} (hlen : hi - lo + 1 = (os.toList.length : Int)) (ht : (d :: os.toList).map (fun o => (pc : Int) + o) = (dt :: ts).map (fun t : Nat => (t : Int))) (hd : decode code pc = .ok (.tableswitch d lo hi os, len)) (hx : inR x)
    (h1 : LW p l e s m args below meth c Z Q dt lc st M) (h2 : ∀ (k t : Nat), ts[k]? = some t → LW p l e s m args below meth c Z Q t lc st M) : LW p l e s m args below meth c Z Q pc lc (.inl x :: st) M := by
  intro H locs ls hl hP hS
  simp only [List.map_cons, List.cons.injEq] at ht
  by_cases ho : x < lo ∨ hi < x
  · exact lv_tableOut X.1 X.2.1 hd (by rw [inR_to hx]; exact ho) ht.1 (h1 H locs ls hl hP hS)
  · have hi' : (x - lo).toNat < os.toList.length := by omega
    have e1 : os[(x - lo).toNat]? = some (os.toList[(x - lo).toNat]'hi') := by
      rw [← Array.getElem?_toList]
      exact List.getElem?_eq_getElem hi'
    have e2 : (os.toList.map (fun o => (pc : Int) + o))[(x - lo).toNat]? = some ((pc : Int) + os.toList[(x - lo).toNat]'hi') := by
      rw [List.getElem?_map, List.getElem?_eq_getElem hi']
      rfl
    rw [ht.2, List.getElem?_map] at e2
    cases e3 : ts[(x - lo).toNat]? with
    | none => rw [e3] at e2; cases e2
    | some t =>
      rw [e3] at e2
      have e4 : (t : Int) = (pc : Int) + os.toList[(x - lo).toNat]'hi' := Option.some.inj e2
      exact lv_tableIn X.1 X.2.1 hd (by rw [inR_to hx]; omega) (by rw [inR_to hx]; omega) (off := os.toList[(x - lo).toNat]'hi') (by rw [inR_to hx]; exact e1) e4.symm (h2 _ t e3 H locs ls hl hP hS)
end LAW
