/-! ===== contracts of methods, and calls by them ===== -/
abbrev rmd (d : Nat) : Room := { frames := d, cells := 0, slots := 0, locals := 64 * d }
abbrev WSy (y : MethodName) (cc : ByteArray) (maxL : Nat) (ret : Option FieldType) : List Jvm.Cond := Jvm.Cond.code y cc maxL ret :: BIG
abbrev GWd (Z : ZT) (M : Mem) (U : State) : Prop := va_P Z.1 vwCl (wldF Z M) U.heap ∧ va_K Z.1 vwCl (zT Z) U
/-- method y keeps contract k within d frames -/
def Impl (l : Launch) (Z : ZT) (y : MethodName) (cc : ByteArray) (maxL : Nat) (ret : Option FieldType) (d : Nat) (k : Call) : Prop := ∀ (g : k.1) (vs : List AV) (M : Mem), vs.length = k.2.1 → noLng vs = true → k.2.2.1 g vs M →
  Met l y (WSy y cc maxL ret) (rmd d) (va_Pc (vs.map (cvF Z)) (GWd Z M)) (Qcall Z k g vs M) 0 0 (zB Z)
theorem good_big {x : Jvm.Cond} {L : List Jvm.Cond} (h : ∀ w ∈ L, w ∈ BIG) : GoodIn (x :: BIG) L := fun w hw => ⟨List.mem_cons_of_mem _ (h w hw), good_of_word (big_gd w (h w hw))⟩
theorem gw_blind {Z : ZT} {M : Mem} {av : List Value} : FrameBlind (va_Pc av (GWd Z M)) := fun a U g mk q => ⟨q.1, q.2.1, va_K.moved (u := U) (U := U.calling g mk a) (Vm.Alike.refl U.vm) q.2.2⟩
theorem cat_sum (Z : ZT) (st : List AV) : ((st.map (cvF Z)).map fun v => v.category).sum = catA st := by
  induction st with
  | nil => rfl
  | cons v r ih =>
    rcases v with x | x | x
    · simp [cvF, Value.category, catA, ih] at *; omega
    · simp [cvF, Value.category, catA, ih] at *; omega
    · simp [cvF, Value.category, catA, ih] at *; omega
section CALLS
variable {p : Program} {l : Launch} {e : Env} {s : State} {m : MethodId} {args : Array Value} {below : List Frame} {meth : Method} {c : Code} {Q : State → Prop} {cc : ByteArray} {nL : Nat} {own : String} {x0 : Jvm.Cond} {Z : ZT}
theorem callOk_V {d d' maxL kd ix : Nat} {y : MethodName} {cc' : ByteArray} {ret : Option FieldType} {k : Call} (X : CX p s m args c cc nL own (x0 :: BIG) Z) (hI : Impl l Z y cc' maxL ret d' k) (hk : kd < 9) (hyc : y.cls = tnF kd) (hml : Jvm.Cond.methodLink own ix y ∈ BIG) (hiw : Jvm.Cond.instanceMethod y ∈ BIG) (hvw : Jvm.Cond.selects y.cls y y ∈ BIG) (hnw : Jvm.Cond.initialized y.cls ∈ BIG) (hcw : Jvm.Cond.code y cc' maxL ret ∈ BIG)
    (hd : y.cls ≠ "java/lang/invoke/MethodHandle" ∧ y.cls ≠ "java/lang/invoke/VarHandle" ∧ (parseMethodDescriptor y.desc).map (fun d => d.parameters.length) = some (k.2.1 - 1)) (hlev : d' + 1 ≤ d ∧ maxL ≤ 45) :
    CallOk (AW p l e (rmd d) s m args below meth c nL Z Q) cc (ix, some kd, k) := by
  intro pc lc vs rest M hdec hrc hlen hcat hnl g hpre haft
  match vs, hrc, hlen, hnl, hpre, haft with
  | .inr (.inr o) :: vs', hrc, hlen, hnl, hpre, haft =>
  intro H locs ls hl hP hS
  have hst : (((.inr (.inr o) : AV) :: vs').reverse ++ rest).map (cvF Z) = (vs'.map (cvF Z)).reverse ++ .ref (zA Z o) :: rest.map (cvF Z) := by
    simp [cvF]
  rw [hst]
  have hM := hI g (.inr (.inr o) :: vs') M hlen hnl hpre
  have hlsz : ls.size = nL := by obtain ⟨-, lv, h1, -⟩ := hl; exact h1.1
  have hG : GoodIn (x0 :: BIG) (wsV own ix y.cls y (WSy y cc' maxL ret)) := good_big (fun w hw => by
    rcases List.mem_append.mp hw with hw | hw
    · simp only [List.mem_cons, List.not_mem_nil, or_false] at hw
      rcases hw with rfl | rfl | rfl | rfl <;> assumption
    · rcases List.mem_cons.mp hw with rfl | hw
      · exact hcw
      · exact hw)
  have hcw2 : CallW (rmd d) s args own y.cls ix y cc' maxL ret (WSy y cc' maxL ret) (rmd d') 0 0 (k.2.1 - 1) := cwV (k.2.1 - 1) X.2.2.2.2.1 hG rfl rfl rfl ⟨rfl, hd⟩ ⟨hlev.1, by have := hlev.1; have := hlev.2; show 8 + (maxL + 11) + 64 * d' ≤ 64 * d; omega⟩
  have h6 : o < 67 := kdF_lt (by have : kdF o = kd := hrc; omega)
  have hrecv : ∃ cellB : Cell, H[zA Z o]? = some cellB ∧ cellB.vm.isStatics = false ∧ s.vm.findClass y.cls = some cellB.cls := by
    have hrc : kdF o = kd := hrc
    have := va_recv X.2.2.2.2.2.1 hP (kindF kd hk).1 (q0 := o) (a := zA Z o) (fs := (List.range (nfF (kdF o))).map (fldF Z M o)) ((wldF_at Z M h6).trans (by rw [cellF_o Z M (by omega), hrc]))
    rw [hyc]
    exact this
  have hpv : PreV s H y.cls (zA Z o) (va_Pc (((.inr (.inr o) : AV) :: vs').map (cvF Z)) (GWd Z M)) (vs'.map (cvF Z)) := ⟨gw_blind, hrecv, fun U hU hW => ⟨rfl, by rw [hU]; exact hP, va_K.moved hW.alike X.2.2.2.2.2.1⟩⟩
  obtain ⟨G, kn, kp, kq⟩ := k
  have hlv : (vs'.map (cvF Z)).length = kn - 1 := by have : (vs'.length + 1) = kn := hlen; simp; omega
  have hrun := va_runV (g := F0 m pc ls ((vs'.map (cvF Z)).reverse ++ .ref (zA Z o) :: rest.map (cvF Z))) (As := vs'.map (cvF Z)) (rest := rest.map (cvF Z)) (locs := locs) (cells := 0) (slots := 0) (below := below) (e := e) (meth := meth) (H := H) ⟨X.1, X.2.1, X.2.2.1, X.2.2.2.1, X.2.2.2.2.1⟩ hM hcw2 hpv rfl hlv hlsz rfl (lv_room (by rw [cat_sum]; exact hcat)) hdec ⟨Nat.le_refl _, Nat.le_refl _⟩
  cases kq with
  | inl pv =>
    refine va_callv (a := (((.inr (.inr o) : AV) :: vs').map (cvF Z)).toArray) hrun hS (fun q _ h => h) (fun q h => h) (fun u t H1 locs1 ht hvm hw hB hz hk1 hS1 => ?_)
    rw [ht] at hB
    exact haft u hw H1 locs1 ls hl hB.1 hS1
  | inr pi =>
    refine va_calli (a := (((.inr (.inr o) : AV) :: vs').map (cvF Z)).toArray) hrun hS (fun q _ h => h) (fun q h => h) (fun r u t H1 locs1 ht hvm hw hB hz hk1 hS1 => ?_)
    rw [ht] at hB
    have := haft u.1 u.2 hw.2 H1 locs1 ls hl hB.1 hS1
    rw [hw.1]
    exact this
theorem callOk_S {d d' maxL ix : Nat} {y : MethodName} {cc' : ByteArray} {ret : Option FieldType} {k : Call} (X : CX p s m args c cc nL own (x0 :: BIG) Z) (hI : Impl l Z y cc' maxL ret d' k) (hml : Jvm.Cond.methodLink own ix y ∈ BIG) (hsw : Jvm.Cond.static y ∈ BIG) (hnw : Jvm.Cond.initialized y.cls ∈ BIG) (hcw : Jvm.Cond.code y cc' maxL ret ∈ BIG)
    (hd : y.cls ≠ "java/lang/invoke/MethodHandle" ∧ y.cls ≠ "java/lang/invoke/VarHandle" ∧ (parseMethodDescriptor y.desc).map (fun d => d.parameters.length) = some k.2.1) (hlev : d' + 1 ≤ d ∧ maxL ≤ 45) :
    CallOk (AW p l e (rmd d) s m args below meth c nL Z Q) cc (ix, none, k) := by
  intro pc lc vs rest M hdec hrc hlen hcat hnl g hpre haft
  intro H locs ls hl hP hS
  have hst : (vs.reverse ++ rest).map (cvF Z) = (vs.map (cvF Z)).reverse ++ rest.map (cvF Z) := by simp
  rw [hst]
  have hM := hI g vs M hlen hnl hpre
  have hlsz : ls.size = nL := by obtain ⟨-, lv, h1, -⟩ := hl; exact h1.1
  have hG : GoodIn (x0 :: BIG) (va_wsS own ix y (WSy y cc' maxL ret)) := good_big (fun w hw => by
    rcases List.mem_append.mp hw with hw | hw
    · simp only [List.mem_cons, List.not_mem_nil, or_false] at hw
      rcases hw with rfl | rfl | rfl <;> assumption
    · rcases List.mem_cons.mp hw with rfl | hw
      · exact hcw
      · exact hw)
  have hcw2 := va_cwS (R := rmd d) (rm := rmd d') (mc := 0) (ms := 0) k.2.1 X.2.2.2.2.1 hG rfl rfl rfl hd ⟨hlev.1, by have := hlev.1; have := hlev.2; show 8 + (maxL + 11) + 64 * d' ≤ 64 * d; omega⟩
  have hpv : PreS s H (va_Pc (vs.map (cvF Z)) (GWd Z M)) (vs.map (cvF Z)) := ⟨gw_blind, fun U hU hW => ⟨rfl, by rw [hU]; exact hP, va_K.moved hW.alike X.2.2.2.2.2.1⟩⟩
  obtain ⟨G, kn, kp, kq⟩ := k
  have hlv : (vs.map (cvF Z)).length = kn := by simpa using hlen
  have hrun := va_runS (g := F0 m pc ls ((vs.map (cvF Z)).reverse ++ rest.map (cvF Z))) (As := vs.map (cvF Z)) (rest := rest.map (cvF Z)) (locs := locs) (cells := 0) (slots := 0) (below := below) (e := e) (meth := meth) (H := H) ⟨X.1, X.2.1, X.2.2.1, X.2.2.2.1, X.2.2.2.2.1⟩ hM hcw2 hpv rfl hlv hlsz rfl (lv_room (by rw [cat_sum]; exact hcat)) hdec ⟨Nat.le_refl _, Nat.le_refl _⟩
  cases kq with
  | inl pv =>
    refine va_callv (a := (vs.map (cvF Z)).toArray) hrun hS (fun q _ h => h) (fun q h => h) (fun u t H1 locs1 ht hvm hw hB hz hk1 hS1 => ?_)
    rw [ht] at hB
    exact haft u hw H1 locs1 ls hl hB.1 hS1
  | inr pi =>
    refine va_calli (a := (vs.map (cvF Z)).toArray) hrun hS (fun q _ h => h) (fun q h => h) (fun r u t H1 locs1 ht hvm hw hB hz hk1 hS1 => ?_)
    rw [ht] at hB
    have := haft u.1 u.2 hw.2 H1 locs1 ls hl hB.1 hS1
    rw [hw.1]
    exact this
/-- arraycopy between rows of ints, as a contract -/
def cpC (n : Nn) : Call := ⟨Unit, 5, (fun _ vs _ => match vs with
  | [.inr (.inr a), .inl sp, .inr (.inr b), .inl dp, .inl k] => kdF a = 100 ∧ kdF b = 100 ∧ 0 ≤ sp ∧ 0 ≤ dp ∧ 0 ≤ k ∧ sp + k ≤ (lnF n a : Int) ∧ dp + k ≤ (lnF n b : Int)
  | _ => False), .inl (fun _ vs M M' => match vs with
  | [.inr (.inr a), .inl sp, .inr (.inr b), .inl dp, .inl k] => M' = va_up M b (va_cpy (M a) (M b) sp.toNat dp.toNat k.toNat)
  | _ => False)⟩
theorem callOk_cp {d ix : Nat} (X : CX p s m args c cc nL own (x0 :: BIG) Z) (hln : ∀ a, lnF (zN Z) a < 2147483648) (hw : Jvm.Cond.methodLink own ix arraycopyName ∈ BIG ∧ Jvm.Cond.native arraycopyName ∈ BIG ∧ Jvm.Cond.static arraycopyName ∈ BIG ∧ Jvm.Cond.initialized "java/lang/System" ∈ BIG) (hd : 1 ≤ d) :
    CallOk (AW p l e (rmd d) s m args below meth c nL Z Q) cc (ix, none, cpC (zN Z)) := by
  intro pc lc vs rest M hdec hrc hlen hcat hnl g hpre haft
  match vs, hpre, haft with
  | [.inr (.inr a), .inl sp, .inr (.inr b), .inl dp, .inl k], hpre, haft =>
  exact aw_copy X ⟨List.mem_cons_of_mem _ hw.1, List.mem_cons_of_mem _ hw.2.1, List.mem_cons_of_mem _ hw.2.2.1, List.mem_cons_of_mem _ hw.2.2.2⟩ (hln a) (hln b) ⟨hd, by show 40 ≤ 64 * d; omega⟩ hcat hpre hdec (haft _ rfl)
end CALLS
/-- a call of a method's own pool that is in order, whatever the machine's state -/
def CallI (l : Launch) (Z : ZT) (own : String) (d : Nat) (q : Nat × Option Nat × Call) : Prop := ∀ (p : Program) (e : Env) (s : State) (m : MethodId) (args : Array Value) (below : List Frame) (meth : Method) (c : Code) (Q : State → Prop) (cc : ByteArray) (nL : Nat) (x0 : Jvm.Cond), CX p s m args c cc nL own (x0 :: BIG) Z → CallOk (AW p l e (rmd d) s m args below meth c nL Z Q) cc q
theorem lv_args_mem (Z : ZT) (vs : List AV) : ∀ (i j : Nat) (w : AV), noLng vs = true → vs[j]? = some w → (i + j, cvF Z w) ∈ lv_args i (vs.map (cvF Z)) := by
  induction vs with
  | nil => intro i j w _ h; simp at h
  | cons v r ih =>
    intro i j w hn h
    have hv : (cvF Z v).category = 1 ∧ noLng r = true := by
      rcases v with x | x | x
      · exact ⟨rfl, hn⟩
      · cases hn
      · exact ⟨rfl, hn⟩
    rw [List.map_cons, lv_args]
    cases j with
    | zero => simp at h; subst h; exact List.mem_cons_self
    | succ j =>
      refine List.mem_cons_of_mem _ ?_
      rw [if_neg (by rw [hv.1]; decide)]
      have := ih (i + 1) j w hv.2 (by simpa using h)
      rw [show i + (j + 1) = i + 1 + j by omega]
      exact this
theorem lg_sl_len (Z : ZT) (vs : List AV) (h : noLng vs = true) : (lg_sl (vs.map (cvF Z))).length = vs.length := by
  induction vs with
  | nil => rfl
  | cons v r ih =>
    have hv : (cvF Z v).category = 1 ∧ noLng r = true := by
      rcases v with x | x | x
      · exact ⟨rfl, h⟩
      · cases h
      · exact ⟨rfl, h⟩
    have e : lg_sl (cvF Z v :: r.map (cvF Z)) = (if (cvF Z v).category = 2 then [Slot.val (cvF Z v), .second] else [Slot.val (cvF Z v)]) ++ lg_sl (r.map (cvF Z)) := by
      unfold lg_sl
      rw [List.flatMap_cons]
    rw [List.map_cons, e, if_neg (by rw [hv.1]; decide), List.length_append, ih hv.2]
    simp
    omega
/-- what is checked of a method's pool by computation, as a proposition -/
def FdW (own : String) (F : List (Nat × Nat × Nat × Nat × Nat)) : Prop := ∀ q ∈ F, q.2.1 < 9 ∧ q.2.2.1 < nfF q.2.1 ∧ Jvm.Cond.fieldLink own q.1 (ttF q.2.1 q.2.2.1).1 (ttF q.2.1 q.2.2.1).2.1 (ttF q.2.1 q.2.2.1).2.2.1 ∈ BIG ∧ (match q.2.2.2.1 with
  | 0 => tyF q.2.1 q.2.2.1 = .int ∧ (ttF q.2.1 q.2.2.1).2.2.2 = false
  | 1 => tyF q.2.1 q.2.2.1 = .boolean ∧ (ttF q.2.1 q.2.2.1).2.2.2 = false
  | 2 => isRefT (tyF q.2.1 q.2.2.1) = true ∧ ∀ o, kdF o = q.2.1 → rfF o q.2.2.1 = o + 1
  | 3 => isRefT (tyF q.2.1 q.2.2.1) = false
  | 4 => isRefT (tyF q.2.1 q.2.2.1) = true ∧ ∀ o, kdF o = q.2.1 → rfF o q.2.2.1 = q.2.2.2.2
  | _ => False)
def fdKB (q : Nat × Nat × Nat × Nat × Nat) : Bool := match q.2.2.2.1 with
  | 0 => decide (tyF q.2.1 q.2.2.1 = .int) && !(ttF q.2.1 q.2.2.1).2.2.2
  | 1 => decide (tyF q.2.1 q.2.2.1 = .boolean) && !(ttF q.2.1 q.2.2.1).2.2.2
  | 2 => isRefT (tyF q.2.1 q.2.2.1) && (List.range 67).all (fun o => decide (kdF o = q.2.1 → rfF o q.2.2.1 = o + 1))
  | 3 => !isRefT (tyF q.2.1 q.2.2.1)
  | 4 => isRefT (tyF q.2.1 q.2.2.1) && (List.range 67).all (fun o => decide (kdF o = q.2.1 → rfF o q.2.2.1 = q.2.2.2.2))
  | _ => false
theorem fdW_of (own : String) (F : List (Nat × Nat × Nat × Nat × Nat)) (ps : List Nat) (h1 : (F.map (fun q => Jvm.Cond.fieldLink own q.1 (ttF q.2.1 q.2.2.1).1 (ttF q.2.1 q.2.2.1).2.1 (ttF q.2.1 q.2.2.1).2.2.1)).map some = ps.map (fun i => lw_tbl[i]?)) (h2 : F.all (fun q => decide (q.2.1 < 9) && (decide (q.2.2.1 < nfF q.2.1) && fdKB q)) = true) : FdW own F := by
  have hb := bigAll (F.map (fun q => Jvm.Cond.fieldLink own q.1 (ttF q.2.1 q.2.2.1).1 (ttF q.2.1 q.2.2.1).2.1 (ttF q.2.1 q.2.2.1).2.2.1)) ps h1 (by
    rw [List.all_eq_true]
    intro w hw
    obtain ⟨q, -, rfl⟩ := List.mem_map.mp hw
    rfl)
  intro q hq
  have h3 := List.all_eq_true.mp h2 q hq
  simp only [Bool.and_eq_true, decide_eq_true_eq] at h3
  refine ⟨h3.1, h3.2.1, hb _ (List.mem_map.mpr ⟨q, hq, rfl⟩), ?_⟩
  have h4 := h3.2.2
  have h9 := h3.1
  obtain ⟨ix, ci, kk, wh, t⟩ := q
  unfold fdKB at h4
  dsimp only at h4 h9 ⊢
  match wh, h4 with
  | 0, h4 => simpa using h4
  | 1, h4 => simpa using h4
  | 2, h4 =>
    simp only [Bool.and_eq_true, List.all_eq_true] at h4
    exact ⟨h4.1, fun o ho => of_decide_eq_true (h4.2 o (List.mem_range.mpr (kd9 ho h9))) ho⟩
  | 3, h4 => simpa using h4
  | 4, h4 =>
    simp only [Bool.and_eq_true, List.all_eq_true] at h4
    exact ⟨h4.1, fun o ho => of_decide_eq_true (h4.2 o (List.mem_range.mpr (kd9 ho h9))) ho⟩
  | n + 5, h4 => cases h4
def IcW (own : String) (F : List (Nat × Int)) : Prop := ∀ q ∈ F, Jvm.Cond.constant own q.1 (Int32.ofInt q.2) ∈ BIG
def LcW (own : String) (F : List (Nat × Int)) : Prop := ∀ q ∈ F, Jvm.Cond.constantLong own q.1 (Int64.ofInt q.2) ∈ BIG
theorem icW_of (own : String) (F : List (Nat × Int)) (ps : List Nat) (h1 : (F.map (fun q => Jvm.Cond.constant own q.1 (Int32.ofInt q.2))).map some = ps.map (fun i => lw_tbl[i]?)) : IcW own F := by
  have hb := bigAll _ ps h1 (by
    rw [List.all_eq_true]
    intro w hw
    obtain ⟨q, -, rfl⟩ := List.mem_map.mp hw
    rfl)
  intro q hq
  exact hb _ (List.mem_map.mpr ⟨q, hq, rfl⟩)
theorem lcW_of (own : String) (F : List (Nat × Int)) (ps : List Nat) (h1 : (F.map (fun q => Jvm.Cond.constantLong own q.1 (Int64.ofInt q.2))).map some = ps.map (fun i => lw_tbl[i]?)) : LcW own F := by
  have hb := bigAll _ ps h1 (by
    rw [List.all_eq_true]
    intro w hw
    obtain ⟨q, -, rfl⟩ := List.mem_map.mp hw
    rfl)
  intro q hq
  exact hb _ (List.mem_map.mpr ⟨q, hq, rfl⟩)
set_option maxHeartbeats 2000000 in
/-- a method that keeps its contract by the steps keeps it in the machine -/
theorem mkImpl {l : Launch} {Z : ZT} {y : MethodName} {cc : ByteArray} {nL N rt d : Nat} {ret : Option FieldType} {k : Call} {t : Tt} {F : List (Nat × Nat × Nat × Nat × Nat)} {I J : List (Nat × Int)} {CL : List (Nat × Option Nat × Call)} (hZ : adOk Z) (hln : ∀ a, lnF (zN Z) a < 2147483648) (hy : plainName y.cls = true) (hT : okT cc (tWn N t) N nL = true) (hF : FdW y.cls F) (hI : IcW y.cls I) (hJ : LcW y.cls J) (hrt : rtOk ret rt k) (hn : k.2.1 ≤ nL)
    (hC : ∀ q ∈ CL, CallI l Z y.cls d q) (hV : Ver (tWn N t) (F, I, J, CL) rt nL (zN Z) k) : Impl l Z y cc nL ret d k := by
  intro g vs M0 hlen hnl hpre
  refine Met.ofW (cc := cc) (maxL := nL) (ret := ret) hy rfl ?_
  intro p e s m args below meth c s₁ B hml hv
  obtain ⟨rfl, hP, hK⟩ := hv
  have hts := atoms_spec (ws := WSy y cc nL ret) B.pre
  have hown : s.vm.findClass y.cls = some m.cls := findClass_of_methodNamed B.named
  have X : CX p s m ((vs.map (cvF Z)).toArray) c cc nL y.cls (WSy y cc nL ret) Z := ⟨B.exec, B.bytes, hml, hown, hts, hK, hZ⟩
  have hPW : PoolW y.cls (WSy y cc nL ret) (F, I, J, CL) := ⟨fun w h => List.mem_cons_of_mem _ h, fun q hq => ⟨(hF q hq).1, (hF q hq).2.1, List.mem_cons_of_mem _ (hF q hq).2.2.1, (hF q hq).2.2.2⟩, fun q hq => List.mem_cons_of_mem _ (hI q hq), fun q hq => List.mem_cons_of_mem _ (hJ q hq)⟩
  have key := hV g vs M0 hpre (AW p l e (rmd d) s m ((vs.map (cvF Z)).toArray) below meth c nL Z (MQ below (Qcall Z k g vs M0) ((vs.map (cvF Z)).toArray) s 0 0 (zB Z)))
    (fun n stops pc lc st M h => s_run_sound X B.returns B.notSynchronized hrt hT hPW hln (fun q hq => hC q hq p e s m _ below meth c _ cc nL _ X) stops n pc lc st M h)
  have hll := lg_sl_len Z vs hnl
  rw [lg_entry_eq]
  refine key s.heap [] _ ⟨?_, lv_args 0 (vs.map (cvF Z)), lv_entry _ (by rw [hll, hlen]; exact hn), ?_⟩ hP va_S.rf
  · simp [entL]; omega
  · intro j w hj
    unfold entL at hj
    by_cases hjl : j < vs.length
    · rw [List.getElem?_append_left (by simpa using hjl), List.getElem?_map] at hj
      cases hq : vs[j]? with
      | none => rw [hq] at hj; cases hj
      | some w' =>
        rw [hq] at hj
        cases hj
        have := lv_args_mem Z vs 0 j w hnl hq
        rwa [Nat.zero_add] at this
    · rw [List.getElem?_append_right (by simpa using hjl), List.getElem?_replicate] at hj
      split at hj <;> cases hj
