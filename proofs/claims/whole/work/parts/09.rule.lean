/-! ===== the steps are the machine's: a method that keeps its contract by the steps keeps it in the machine ===== -/
def lenI (i : Instr) (d : Nat) : Nat := match i with
  | .bipush _ => 2
  | .sipush _ => 3
  | .ldc _ => 2
  | .ldc_w _ => 3
  | .ldc2_w _ => 3
  | .iload _ => 2
  | .lload _ => 2
  | .aload _ => 2
  | .istore _ => 2
  | .lstore _ => 2
  | .astore _ => 2
  | .iinc _ _ => 3
  | .ifCond _ _ => 3
  | .if_icmp _ _ => 3
  | .goto _ => 3
  | .tableswitch _ _ _ _ => d
  | .getfield _ => 3
  | .putfield _ => 3
  | .invokevirtual _ => 3
  | .invokestatic _ => 3
  | .invokespecial _ => 3
  | .new _ => 3
  | .newarray _ => 2
  | _ => 1
def offI (i : Instr) : List Int := match i with
  | .goto o => [o]
  | .ifCond _ o => [o]
  | .if_icmp _ o => [o]
  | .tableswitch d _ _ os => d :: os.toList
  | _ => []
def idxI (nL : Nat) (i : Instr) : Bool := match i with
  | .istore k => Nat.blt k nL
  | .astore k => Nat.blt k nL
  | .iinc k _ => Nat.blt k nL
  | .istore_n k => Nat.blt k.val nL
  | .astore_n k => Nat.blt k.val nL
  | .lstore k => Nat.blt (k + 1) nL
  | .lstore_n k => Nat.blt (k.val + 1) nL
  | .bipush v => decide (-128 ≤ v ∧ v < 128)
  | .sipush v => decide (-32768 ≤ v ∧ v < 32768)
  | .tableswitch _ lo hi os => decide (hi - lo + 1 = (os.toList.length : Int))
  | _ => true
def okE (cc : ByteArray) (nL pc : Nat) (e : Instr × Nat × List Nat) : Bool :=
  decide (decode cc pc = .ok (e.1, lenI e.1 (e.2.1 - pc))) && (decide (e.2.1 = pc + lenI e.1 (e.2.1 - pc)) && (decide ((offI e.1).map (fun o => (pc : Int) + o) = e.2.2.map (fun t : Nat => (t : Int))) && idxI nL e.1))
def okT (cc : ByteArray) (T : Tt) (N nL : Nat) : Bool := (List.range N).all (fun pc => match T pc with
  | none => true
  | some e => okE cc nL pc e)
def tWn (N : Nat) (t : Tt) : Tt := fun pc => cond (Nat.blt pc N) (t pc) none
theorem okT_at {cc : ByteArray} {t : Tt} {N nL pc : Nat} {e : Instr × Nat × List Nat} (h : okT cc (tWn N t) N nL = true) (he : tWn N t pc = some e) : decode cc pc = .ok (e.1, lenI e.1 (e.2.1 - pc)) ∧ e.2.1 = pc + lenI e.1 (e.2.1 - pc) ∧ (offI e.1).map (fun o => (pc : Int) + o) = e.2.2.map (fun t : Nat => (t : Int)) ∧ idxI nL e.1 = true := by
  have hN : pc < N := by
    by_cases hp : pc < N
    · exact hp
    · have : Nat.blt pc N = false := by
        cases hb : Nat.blt pc N with
        | false => rfl
        | true => exact absurd (Nat.blt_eq.mp hb) hp
      unfold tWn at he
      rw [this] at he
      cases he
  have := List.all_eq_true.mp h pc (List.mem_range.mpr hN)
  rw [he] at this
  simp only [okE, Bool.and_eq_true, decide_eq_true_eq] at this
  exact this
section RULE
variable {p : Program} {l : Launch} {e : Env} {R : Room} {s : State} {m : MethodId} {args : Array Value} {below : List Frame} {meth : Method} {c : Code} {cc : ByteArray} {nL : Nat} {own : String} {Ts : List Jvm.Cond} {Z : ZT}
/-- the pool's words -/
def PoolW (own : String) (Ts : List Jvm.Cond) (P : Pool) : Prop := (∀ w ∈ BIG, w ∈ Ts) ∧ (∀ q ∈ P.1, q.2.1 < 9 ∧ q.2.2.1 < nfF q.2.1 ∧ Jvm.Cond.fieldLink own q.1 (ttF q.2.1 q.2.2.1).1 (ttF q.2.1 q.2.2.1).2.1 (ttF q.2.1 q.2.2.1).2.2.1 ∈ Ts ∧ (match q.2.2.2.1 with
  | 0 => tyF q.2.1 q.2.2.1 = .int ∧ (ttF q.2.1 q.2.2.1).2.2.2 = false
  | 1 => tyF q.2.1 q.2.2.1 = .boolean ∧ (ttF q.2.1 q.2.2.1).2.2.2 = false
  | 2 => isRefT (tyF q.2.1 q.2.2.1) = true ∧ ∀ o, kdF o = q.2.1 → rfF o q.2.2.1 = o + 1
  | 3 => isRefT (tyF q.2.1 q.2.2.1) = false
  | 4 => isRefT (tyF q.2.1 q.2.2.1) = true ∧ ∀ o, kdF o = q.2.1 → rfF o q.2.2.1 = q.2.2.2.2
  | _ => False)) ∧ (∀ q ∈ P.2.1, Jvm.Cond.constant own q.1 (Int32.ofInt q.2) ∈ Ts) ∧ ∀ q ∈ P.2.2.1, Jvm.Cond.constantLong own q.1 (Int64.ofInt q.2) ∈ Ts
def aftC (c : Call) (g : c.1) (vs rest : List AV) (K : Kt) (nx : Nat) (lc : Lc) (M : Mem) : Prop := match c.2.2.2 with
  | .inl pv => ∀ M' : Mem, pv g vs M M' → K nx lc rest M'
  | .inr pi => ∀ (x : Int) (M' : Mem), pi g vs M x M' → K nx lc (.inl x :: rest) M'
/-- a call comes back as its contract says -/
def CallOk (aw : Kt) (cc : ByteArray) (q : Nat × Option Nat × Call) : Prop := ∀ (pc : Nat) (lc : Lc) (vs rest : List AV) (M : Mem), decode cc pc = .ok ((match q.2.1 with
    | none => .invokestatic q.1
    | some _ => .invokevirtual q.1), 3) → (match q.2.1, vs with
    | none, _ => True
    | some kd, .inr (.inr o) :: _ => kdF o = kd
    | _, _ => False) → vs.length = q.2.2.2.1 → catA rest ≤ 8 → noLng vs = true → ∀ g : q.2.2.1, q.2.2.2.2.1 g vs M → aftC q.2.2 g vs rest aw (pc + 3) lc M → aw pc lc (vs.reverse ++ rest) M
theorem okA_iff {vs rest : List AV} (h : okA vs rest = true) : catA rest ≤ 8 ∧ noLng vs = true := by
  unfold okA at h
  cases hb : Nat.ble (catA rest) 8 with
  | true => rw [hb] at h; exact ⟨Nat.le_of_ble_eq_true hb, h⟩
  | false => rw [hb] at h; cases h
theorem splA_iff {n : Nat} : ∀ {acc st : List AV} {k : List AV → List AV → Prop}, splA n acc st k → ∃ vs rest : List AV, vs.length = n ∧ st = vs ++ rest ∧ k (vs.reverse ++ acc) rest := by
  induction n with
  | zero => intro acc st k h; exact ⟨[], st, rfl, rfl, by unfold splA at h; simpa using h⟩
  | succ n ih =>
    intro acc st k h
    cases st with
    | nil => exact h.elim
    | cons v r =>
      unfold splA at h
      obtain ⟨vs, rest, h1, h2, h3⟩ := ih h
      exact ⟨v :: vs, rest, by simp [h1], by simp [h2], by simpa using h3⟩
theorem s_go_aft {c : Call} {vs rest : List AV} {K K' : Kt} {nx : Nat} {lc : Lc} {M : Mem} (hK : ∀ pc lc st M, K pc lc st M → K' pc lc st M) (h : s_go c vs rest K nx lc M) : ∃ g : c.1, c.2.2.1 g vs M ∧ aftC c g vs rest K' nx lc M := by
  obtain ⟨G, n, pre, post⟩ := c
  cases post with
  | inl pv => obtain ⟨g, h1, h2⟩ := h; exact ⟨g, h1, fun M' q => hK _ _ _ _ (h2 M' q)⟩
  | inr pi => obtain ⟨g, h1, h2⟩ := h; exact ⟨g, h1, fun x M' q => hK _ _ _ _ (h2 x M' q)⟩
theorem s_br_mono {k : ClassFile.Cond} {x y : Int} {A B A' B' : Prop} (hA : A → A') (hB : B → B') (h : s_br k x y A B) : s_br k x y A' B' := by
  cases k <;> exact ⟨h.1, fun q => hA (h.2.1 q), fun q => hB (h.2.2 q)⟩
theorem sws_at {K : Nat → Prop} {x : Int} : ∀ {ts : List Nat} {lo : Int} (i : Nat) {t : Nat}, s_sws K x lo ts → ts[i]? = some t → x = lo + i → K t := by
  intro ts
  induction ts with
  | nil => intro lo i t h ht; simp at ht
  | cons a r ih =>
    intro lo i t h ht hx
    unfold s_sws at h
    cases i with
    | zero => simp at ht; subst ht; exact h.1 (by simpa using hx)
    | succ i => exact ih i h.2 (by simpa using ht) (by rw [hx]; push_cast; omega)
theorem aw_sw {Q : State → Prop} {pc : Nat} {lc : Lc} {st : List AV} {M : Mem} (X : CX p s m args c cc nL own Ts Z) {d lo hi : Int} {os : Array Int} {len dt : Nat} {ts : List Nat} {x : Int} (hlen : hi - lo + 1 = (os.toList.length : Int)) (ht : (d :: os.toList).map (fun o => (pc : Int) + o) = (dt :: ts).map (fun t : Nat => (t : Int))) (hd : decode cc pc = .ok (.tableswitch d lo hi os, len)) (hx : inR x)
    (h1 : (x < lo ∨ hi < x) → AW p l e R s m args below meth c nL Z Q dt lc st M) (h2 : s_sws (fun t => AW p l e R s m args below meth c nL Z Q t lc st M) x lo ts) : AW p l e R s m args below meth c nL Z Q pc lc (.inl x :: st) M := by
  intro H locs ls hl hP hS
  simp only [List.map_cons, List.cons.injEq] at ht
  by_cases ho : x < lo ∨ hi < x
  · exact lv_tableOut X.1 X.2.1 hd (by rw [inR_to hx]; exact ho) ht.1 (h1 ho H locs ls hl hP hS)
  · have hi' : (x - lo).toNat < os.toList.length := by omega
    have e1 : os[(x - lo).toNat]? = some (os.toList[(x - lo).toNat]'hi') := by
      rw [← Array.getElem?_toList]
      exact List.getElem?_eq_getElem hi'
    have e2 : (os.toList.map (fun o => (pc : Int) + o))[(x - lo).toNat]? = some ((pc : Int) + os.toList[(x - lo).toNat]'hi') := by
      rw [List.getElem?_map, List.getElem?_eq_getElem hi']
      rfl
    rw [ht.2, List.getElem?_map] at e2
    cases e3 : ts[(x - lo).toNat]? with
    | none => rw [e3] at e2; cases e2
    | some t =>
      rw [e3] at e2
      have e4 : (t : Int) = (pc : Int) + os.toList[(x - lo).toNat]'hi' := Option.some.inj e2
      exact lv_tableIn X.1 X.2.1 hd (by rw [inR_to hx]; omega) (by rw [inR_to hx]; omega) (off := os.toList[(x - lo).toNat]'hi') (by rw [inR_to hx]; exact e1) e4.symm (sws_at (x - lo).toNat h2 e3 (by omega) H locs ls hl hP hS)
/-- the contract's end, as the machine's rows have it -/
def Qcall (Z : ZT) (k : Call) (g : k.1) (vs : List AV) (M : Mem) : Array Value → State → Outcome → State → Prop := match k.2.2.2 with
  | .inl pv => va_Qv (fun M' : Mem => pv g vs M M') (fun M' t => va_P Z.1 vwCl (wldF Z M') t.heap ∧ va_K Z.1 vwCl (zT Z) t) (zB Z)
  | .inr pi => va_Qi (fun (r : Int32) (u : Int × Mem) => r = Int32.ofInt u.1 ∧ pi g vs M u.1 u.2) (fun u t => va_P Z.1 vwCl (wldF Z u.2) t.heap ∧ va_K Z.1 vwCl (zT Z) t) (zB Z)
def rtOk (ret : Option FieldType) (rt : Nat) (k : Call) : Prop := match rt, ret, k.2.2.2 with
  | 0, none, .inl _ => True
  | 1, some .int, .inr _ => True
  | 2, some .boolean, .inr _ => True
  | _, _, _ => False
theorem aw_iret {pc : Nat} {lc : Lc} {M M0 : Mem} {vs : List AV} {k : Call} {g : k.1} {ret : Option FieldType} {rt : Nat} {st : List AV} (X : CX p s m args c cc nL own Ts Z) (hr : meth.sig.returnType = ret) (hlocks : meth.locks = false) (hrt : rtOk ret rt k) (hd : decode cc pc = .ok (.ireturn, 1)) (h : s_iret (rvF k g vs M0 rt) st M) :
    AW p l e R s m args below meth c nL Z (MQ below (Qcall Z k g vs M0) args s 0 0 (zB Z)) pc lc st M := by
  intro H locs ls hl hP hS
  obtain ⟨G, kn, kp, kq⟩ := k
  match rt, st, h with
  | 1, [.inl x], h =>
    match ret, kq, hrt, h with
    | some .int, .inr pi, _, h =>
      refine W.iret (v := Int32.ofInt x) X.1 X.2.1 hr (fun t ht hW => ⟨⟨Int32.ofInt x, (x, M), rfl, ⟨rfl, h.elim id False.elim⟩, by rw [ht]; exact hP, va_K.moved hW.alike X.2.2.2.2.2.1⟩, hS.F ht⟩) hS.2.2 hd hlocks
  | 2, [.inl x], h =>
    match ret, kq, hrt, h with
    | some .boolean, .inr pi, _, h =>
      refine W.zret (v := Int32.ofInt x) X.1 X.2.1 hr (nar_z h.1).1 (fun t ht hW => ⟨⟨Int32.ofInt x, (x, M), rfl, ⟨rfl, h.2.elim id False.elim⟩, by rw [ht]; exact hP, va_K.moved hW.alike X.2.2.2.2.2.1⟩, hS.F ht⟩) hS.2.2 hd hlocks
theorem aw_ret {pc : Nat} {lc : Lc} {M M0 : Mem} {vs : List AV} {k : Call} {g : k.1} {ret : Option FieldType} {rt : Nat} {st : List AV} (X : CX p s m args c cc nL own Ts Z) (hr : meth.sig.returnType = ret) (hlocks : meth.locks = false) (hrt : rtOk ret rt k) (hd : decode cc pc = .ok (.return_, 1)) (h : s_ret (rvF k g vs M0 rt) st M) :
    AW p l e R s m args below meth c nL Z (MQ below (Qcall Z k g vs M0) args s 0 0 (zB Z)) pc lc st M := by
  intro H locs ls hl hP hS
  obtain ⟨G, kn, kp, kq⟩ := k
  match rt, st, h with
  | 0, [], h =>
    match ret, kq, hrt, h with
    | none, .inl pv, _, h =>
      exact W.vret X.1 X.2.1 hr (fun t ht hW => ⟨⟨M, rfl, h.elim id False.elim, by rw [ht]; exact hP, va_K.moved hW.alike X.2.2.2.2.2.1⟩, hS.F ht⟩) hS.2.2 hd hlocks
set_option maxHeartbeats 4000000 in
/-- one step -/
theorem s_one_sound {t : Tt} {N rt : Nat} {P : Pool} {k : Call} {g : k.1} {vs : List AV} {M0 : Mem} {ret : Option FieldType} (X : CX p s m args c cc nL own Ts Z) (hr : meth.sig.returnType = ret) (hlocks : meth.locks = false) (hrt : rtOk ret rt k) (hT : okT cc (tWn N t) N nL = true) (hP : PoolW own Ts P) (hln : ∀ a, lnF (zN Z) a < 2147483648)
    (hC : ∀ q ∈ P.2.2.2, CallOk (AW p l e R s m args below meth c nL Z (MQ below (Qcall Z k g vs M0) args s 0 0 (zB Z))) cc q)
    {K : Kt} (hK : ∀ pc lc st M, K pc lc st M → AW p l e R s m args below meth c nL Z (MQ below (Qcall Z k g vs M0) args s 0 0 (zB Z)) pc lc st M) {pc : Nat} {lc : Lc} {st : List AV} {M : Mem}
    (h : s_one (tWn N t) P (rvF k g vs M0 rt) (zN Z) K pc lc st M) : AW p l e R s m args below meth c nL Z (MQ below (Qcall Z k g vs M0) args s 0 0 (zB Z)) pc lc st M := by
  unfold s_one at h
  cases hTp : tWn N t pc with
  | none => rw [hTp] at h; exact h.elim
  | some ent =>
  rw [hTp] at h
  obtain ⟨o1, o2, o3, o4⟩ := okT_at hT hTp
  obtain ⟨i, nx, tg⟩ := ent
  dsimp only at h o1 o2 o3 o4
  cases i
  case iconst v => dsimp only [lenI] at o1 o2; subst o2; exact aw_iconst X o1 (hK _ _ _ _ h)
  case bipush v => dsimp only [lenI] at o1 o2; subst o2; have o4 := of_decide_eq_true o4; exact aw_bipush X o4.1 o4.2 o1 (hK _ _ _ _ h)
  case sipush v => dsimp only [lenI] at o1 o2; subst o2; have o4 := of_decide_eq_true o4; exact aw_sipush X o4.1 o4.2 o1 (hK _ _ _ _ h)
  case lconst v => dsimp only [lenI] at o1 o2; subst o2; exact aw_lconst X o1 (hK _ _ _ _ h)
  case ldc ix =>
    dsimp only [lenI] at o1 o2; subst o2
    dsimp only [s_ins, s_ldi] at h
    split at h
    · rename_i v e; exact aw_ldc X (hP.2.2.1 _ (lkN_mem e)) o1 (hK _ _ _ _ h)
    · exact h.elim
  case ldc_w ix =>
    dsimp only [lenI] at o1 o2; subst o2
    dsimp only [s_ins, s_ldi] at h
    split at h
    · rename_i v e; exact aw_ldcw X (hP.2.2.1 _ (lkN_mem e)) o1 (hK _ _ _ _ h)
    · exact h.elim
  case ldc2_w ix =>
    dsimp only [lenI] at o1 o2; subst o2
    dsimp only [s_ins, s_ldl] at h
    split at h
    · rename_i v e; exact aw_ldc2 X (hP.2.2.2 _ (lkN_mem e)) o1 (hK _ _ _ _ h)
    · exact h.elim
  case iload j =>
    dsimp only [lenI] at o1 o2; subst o2
    dsimp only [s_ins, s_iload] at h
    split at h
    · rename_i x e; exact aw_iload X e o1 (hK _ _ _ _ h)
    · exact h.elim
  case iload_n j =>
    dsimp only [lenI] at o1 o2; subst o2
    dsimp only [s_ins, s_iload] at h
    split at h
    · rename_i x e; exact aw_iload_n X e o1 (hK _ _ _ _ h)
    · exact h.elim
  case lload j =>
    dsimp only [lenI] at o1 o2; subst o2
    dsimp only [s_ins, s_lload] at h
    split at h
    · rename_i x e; exact aw_lload X e o1 (hK _ _ _ _ h)
    · exact h.elim
  case lload_n j =>
    dsimp only [lenI] at o1 o2; subst o2
    dsimp only [s_ins, s_lload] at h
    split at h
    · rename_i x e; exact aw_lload_n X e o1 (hK _ _ _ _ h)
    · exact h.elim
  case aload j =>
    dsimp only [lenI] at o1 o2; subst o2
    dsimp only [s_ins, s_aload] at h
    split at h
    · rename_i x e; exact aw_aload X e o1 (hK _ _ _ _ h)
    · exact h.elim
  case aload_n j =>
    dsimp only [lenI] at o1 o2; subst o2
    dsimp only [s_ins, s_aload] at h
    split at h
    · rename_i x e; exact aw_aload_n X e o1 (hK _ _ _ _ h)
    · exact h.elim
  case istore j =>
    dsimp only [lenI] at o1 o2; subst o2
    dsimp only [s_ins, s_istore] at h
    split at h
    · exact aw_istore X (Nat.blt_eq.mp o4) o1 (hK _ _ _ _ ((fLs_iff _ _).mp h))
    · exact h.elim
  case istore_n j =>
    dsimp only [lenI] at o1 o2; subst o2
    dsimp only [s_ins, s_istore] at h
    split at h
    · exact aw_istore_n X (Nat.blt_eq.mp o4) o1 (hK _ _ _ _ ((fLs_iff _ _).mp h))
    · exact h.elim
  case astore j =>
    dsimp only [lenI] at o1 o2; subst o2
    dsimp only [s_ins, s_astore] at h
    split at h
    · exact aw_astore X (Nat.blt_eq.mp o4) o1 (hK _ _ _ _ ((fLs_iff _ _).mp h))
    · exact h.elim
  case astore_n j =>
    dsimp only [lenI] at o1 o2; subst o2
    dsimp only [s_ins, s_astore] at h
    split at h
    · exact aw_astore_n X (Nat.blt_eq.mp o4) o1 (hK _ _ _ _ ((fLs_iff _ _).mp h))
    · exact h.elim
  case lstore j =>
    dsimp only [lenI] at o1 o2; subst o2
    dsimp only [s_ins, s_lstore] at h
    split at h
    · exact aw_lstore X (Nat.blt_eq.mp o4) o1 (hK _ _ _ _ ((fLs_iff _ _).mp h))
    · exact h.elim
  case lstore_n j =>
    dsimp only [lenI] at o1 o2; subst o2
    dsimp only [s_ins, s_lstore] at h
    split at h
    · exact aw_lstore_n X (Nat.blt_eq.mp o4) o1 (hK _ _ _ _ ((fLs_iff _ _).mp h))
    · exact h.elim
  case iinc j v =>
    dsimp only [lenI] at o1 o2; subst o2
    dsimp only [s_ins, s_iinc] at h
    split at h
    · rename_i x e; exact aw_iinc X e (Nat.blt_eq.mp o4) o1 (hK _ _ _ _ ((fLs_iff _ _).mp h))
    · exact h.elim
  case iadd =>
    dsimp only [lenI] at o1 o2; subst o2
    dsimp only [s_ins, s_iadd] at h
    split at h
    · exact aw_iadd X o1 (hK _ _ _ _ h)
    · exact h.elim
  case isub =>
    dsimp only [lenI] at o1 o2; subst o2
    dsimp only [s_ins, s_isub] at h
    split at h
    · exact aw_isub X o1 (hK _ _ _ _ h)
    · exact h.elim
  case imul =>
    dsimp only [lenI] at o1 o2; subst o2
    dsimp only [s_ins, s_imul] at h
    split at h
    · exact aw_imul X o1 (hK _ _ _ _ h)
    · exact h.elim
  case iand =>
    dsimp only [lenI] at o1 o2; subst o2
    dsimp only [s_ins, s_iand] at h
    split at h
    · exact aw_iand X o1 (hK _ _ _ _ h)
    · exact h.elim
  case ior =>
    dsimp only [lenI] at o1 o2; subst o2
    dsimp only [s_ins, s_ior] at h
    split at h
    · exact aw_ior X o1 (hK _ _ _ _ h)
    · exact h.elim
  case ixor =>
    dsimp only [lenI] at o1 o2; subst o2
    dsimp only [s_ins, s_ixor] at h
    split at h
    · exact aw_ixor X o1 (hK _ _ _ _ h)
    · exact h.elim
  case idiv =>
    dsimp only [lenI] at o1 o2; subst o2
    dsimp only [s_ins, s_idiv] at h
    split at h
    · exact aw_idiv X h.1 o1 (hK _ _ _ _ h.2)
    · exact h.elim
  case irem =>
    dsimp only [lenI] at o1 o2; subst o2
    dsimp only [s_ins, s_irem] at h
    split at h
    · exact aw_irem X h.1 o1 (hK _ _ _ _ h.2)
    · exact h.elim
  case ishl =>
    dsimp only [lenI] at o1 o2; subst o2
    dsimp only [s_ins, s_ishl] at h
    split at h
    · exact aw_ishl X h.1 o1 (hK _ _ _ _ h.2)
    · exact h.elim
  case ishr =>
    dsimp only [lenI] at o1 o2; subst o2
    dsimp only [s_ins, s_ishr] at h
    split at h
    · exact aw_ishr X h.1 o1 (hK _ _ _ _ h.2)
    · exact h.elim
  case iushr =>
    dsimp only [lenI] at o1 o2; subst o2
    dsimp only [s_ins, s_iushr] at h
    split at h
    · exact aw_iushr X h.1 o1 (hK _ _ _ _ h.2)
    · exact h.elim
  case ineg =>
    dsimp only [lenI] at o1 o2; subst o2
    dsimp only [s_ins, s_ineg] at h
    split at h
    · exact aw_ineg X o1 (hK _ _ _ _ h)
    · exact h.elim
  case ladd =>
    dsimp only [lenI] at o1 o2; subst o2
    dsimp only [s_ins, s_ladd] at h
    split at h
    · exact aw_ladd X o1 (hK _ _ _ _ h)
    · exact h.elim
  case lsub =>
    dsimp only [lenI] at o1 o2; subst o2
    dsimp only [s_ins, s_lsub] at h
    split at h
    · exact aw_lsub X o1 (hK _ _ _ _ h)
    · exact h.elim
  case lmul =>
    dsimp only [lenI] at o1 o2; subst o2
    dsimp only [s_ins, s_lmul] at h
    split at h
    · exact aw_lmul X o1 (hK _ _ _ _ h)
    · exact h.elim
  case ldiv =>
    dsimp only [lenI] at o1 o2; subst o2
    dsimp only [s_ins, s_ldiv] at h
    split at h
    · exact aw_ldiv X h.1 o1 (hK _ _ _ _ h.2)
    · exact h.elim
  case lrem =>
    dsimp only [lenI] at o1 o2; subst o2
    dsimp only [s_ins, s_lrem] at h
    split at h
    · exact aw_lrem X h.1 o1 (hK _ _ _ _ h.2)
    · exact h.elim
  case lneg =>
    dsimp only [lenI] at o1 o2; subst o2
    dsimp only [s_ins, s_lneg] at h
    split at h
    · exact aw_lneg X o1 (hK _ _ _ _ h)
    · exact h.elim
  case lshr =>
    dsimp only [lenI] at o1 o2; subst o2
    dsimp only [s_ins, s_lshr] at h
    split at h
    · exact aw_lshr X h.1 o1 (hK _ _ _ _ h.2)
    · exact h.elim
  case lcmp =>
    dsimp only [lenI] at o1 o2; subst o2
    dsimp only [s_ins, s_lcmp] at h
    split at h
    · exact aw_lcmp X h.1 o1 (hK _ _ _ _ h.2)
    · exact h.elim
  case i2l =>
    dsimp only [lenI] at o1 o2; subst o2
    dsimp only [s_ins, s_i2l] at h
    split at h
    · exact aw_i2l X h.1 o1 (hK _ _ _ _ h.2)
    · exact h.elim
  case l2i =>
    dsimp only [lenI] at o1 o2; subst o2
    dsimp only [s_ins, s_l2i] at h
    split at h
    · exact aw_l2i X o1 (hK _ _ _ _ h)
    · exact h.elim
  case dup =>
    dsimp only [lenI] at o1 o2; subst o2
    dsimp only [s_ins, s_dup] at h
    split at h
    · exact aw_dup X rfl o1 (hK _ _ _ _ h)
    · exact aw_dup X rfl o1 (hK _ _ _ _ h)
    · exact h.elim
  case dup2 =>
    dsimp only [lenI] at o1 o2; subst o2
    dsimp only [s_ins, s_dup2] at h
    split at h
    · exact aw_dup2 X rfl rfl o1 (hK _ _ _ _ h)
    · exact h.elim
  case pop =>
    dsimp only [lenI] at o1 o2; subst o2
    dsimp only [s_ins, s_pop] at h
    split at h
    · exact aw_pop X rfl o1 (hK _ _ _ _ h)
    · exact aw_pop X rfl o1 (hK _ _ _ _ h)
    · exact h.elim
  case ifCond k o =>
    dsimp only [lenI] at o1 o2; subst o2
    dsimp only [s_ins, s_if] at h
    split at h
    · simp only [offI, List.map_cons, List.map_nil, List.cons.injEq, and_true] at o3
      exact aw_if X o3 o1 (s_br_mono (hK _ _ _ _) (hK _ _ _ _) h)
    · exact h.elim
  case if_icmp k o =>
    dsimp only [lenI] at o1 o2; subst o2
    dsimp only [s_ins, s_icmp] at h
    split at h
    · simp only [offI, List.map_cons, List.map_nil, List.cons.injEq, and_true] at o3
      exact aw_icmp X o3 o1 (s_br_mono (hK _ _ _ _) (hK _ _ _ _) h)
    · exact h.elim
  case goto o =>
    dsimp only [lenI] at o1 o2; subst o2
    dsimp only [s_ins, s_goto] at h
    split at h
    · simp only [offI, List.map_cons, List.map_nil, List.cons.injEq, and_true] at o3
      exact aw_goto X o3 o1 (hK _ _ _ _ h)
    · exact h.elim
  case tableswitch d lo hi os =>
    dsimp only [s_ins, s_sw] at h
    split at h
    · rename_i x r dt ts
      have hsw : ∀ (ts : List Nat) (lo : Int), s_sws (fun t => K t lc r M) x lo ts → s_sws (fun t => AW p l e R s m args below meth c nL Z (MQ below (Qcall Z k g vs M0) args s 0 0 (zB Z)) t lc r M) x lo ts := by
        intro ts
        induction ts with
        | nil => intro lo h; trivial
        | cons a b ih => intro lo h; exact ⟨fun q => hK _ _ _ _ (h.1 q), ih _ h.2⟩
      exact aw_sw X (of_decide_eq_true o4) o3 o1 h.1 (fun q => hK _ _ _ _ (h.2.1 q)) (hsw ts lo h.2.2)
    · exact h.elim
  case getfield ix =>
    dsimp only [lenI] at o1 o2; subst o2
    dsimp only [s_ins, s_getf] at h
    split at h
    · rename_i ci kk t o r e
      have hq := hP.2.1 _ (lkN_mem e)
      have h4 := hq.2.2.2
      dsimp only at h4
      have h5 := hK _ _ _ _ h.2
      rw [← h4.2 o h.1] at h5
      exact aw_getr X ⟨hq.1, hq.2.1, hP.1, hq.2.2.1⟩ h4.1 h.1 o1 h5
    · rename_i ci kk t o r e
      have hq := hP.2.1 _ (lkN_mem e)
      have h4 := hq.2.2.2
      dsimp only at h4
      have h5 := hK _ _ _ _ h.2
      rw [← h4.2 o h.1] at h5
      exact aw_getr X ⟨hq.1, hq.2.1, hP.1, hq.2.2.1⟩ h4.1 h.1 o1 h5
    · rename_i ci kk wh t o r hn4 hn2 e
      have hq := hP.2.1 _ (lkN_mem e)
      have hri : isRefT (tyF ci kk) = false := by
        have h4 := hq.2.2.2
        match wh, hn4, hn2, h4 with
        | 0, _, _, h4 => rw [h4.1]; rfl
        | 1, _, _, h4 => rw [h4.1]; rfl
        | 2, _, hne, _ => exact (hne rfl).elim
        | 3, _, _, h4 => exact h4
        | 4, hne, _, _ => exact (hne rfl).elim
        | n + 5, _, _, h4 => exact h4.elim
      exact aw_geti X ⟨hq.1, hq.2.1, hP.1, hq.2.2.1⟩ hri h.1 o1 (hK _ _ _ _ h.2)
    · exact h.elim
  case putfield ix =>
    dsimp only [lenI] at o1 o2; subst o2
    dsimp only [s_ins, s_putf] at h
    split at h
    · rename_i ci kk t9 x o r e
      have hq := hP.2.1 _ (lkN_mem e)
      exact aw_puti X ⟨hq.1, hq.2.1, hP.1, hq.2.2.1⟩ hq.2.2.2.2 (Or.inl hq.2.2.2.1) h.1 o1 (hK _ _ _ _ h.2)
    · rename_i ci kk t9 x o r e
      have hq := hP.2.1 _ (lkN_mem e)
      exact aw_puti X ⟨hq.1, hq.2.1, hP.1, hq.2.2.1⟩ hq.2.2.2.2 (Or.inr ⟨hq.2.2.2.1, h.1.2⟩) h.1.1 o1 (hK _ _ _ _ h.2)
    · exact h.elim
  case iaload =>
    dsimp only [lenI] at o1 o2; subst o2
    dsimp only [s_ins, s_ald] at h
    split at h
    · exact aw_iald X (hln _) h.1 o1 (hK _ _ _ _ h.2)
    · exact h.elim
  case baload =>
    dsimp only [lenI] at o1 o2; subst o2
    dsimp only [s_ins, s_ald] at h
    split at h
    · exact aw_zald X (hln _) h.1 o1 (hK _ _ _ _ h.2)
    · exact h.elim
  case iastore =>
    dsimp only [lenI] at o1 o2; subst o2
    dsimp only [s_ins, s_iast] at h
    split at h
    · exact aw_iast X (hln _) h.1 o1 (hK _ _ _ _ h.2)
    · exact h.elim
  case bastore =>
    dsimp only [lenI] at o1 o2; subst o2
    dsimp only [s_ins, s_bast] at h
    split at h
    · exact aw_zast X (hln _) h.1 o1 (hK _ _ _ _ h.2)
    · exact h.elim
  case arraylength =>
    dsimp only [lenI] at o1 o2; subst o2
    dsimp only [s_ins, s_alen] at h
    split at h
    · exact aw_alen X h.1 o1 (hK _ _ _ _ h.2)
    · exact h.elim
  case invokevirtual ix =>
    dsimp only [lenI] at o1 o2; subst o2
    dsimp only [s_ins, s_inv] at h
    split at h
    · rename_i hb; cases hb
    · rename_i kd cl e hb
      obtain ⟨vr, rest, e1, e2, h3⟩ := splA_iff h
      subst e2
      cases hcat : okA (vr.reverse ++ []) rest with
      | false => rw [hcat] at h3; exact h3.elim
      | true =>
      rw [hcat] at h3
      dsimp only [cond_true] at h3
      simp only [List.append_nil] at h3 hcat
      have hq := hC _ (lkN_mem e)
      have h3 : s_rcv kd vr.reverse (s_go cl vr.reverse rest K (pc + 3) lc M) := h3
      cases hv : vr.reverse with
      | nil => rw [hv] at h3; exact h3.elim
      | cons v0 vs0 =>
      rcases v0 with x | x | o
      · rw [hv] at h3; exact h3.elim
      · rw [hv] at h3; exact h3.elim
      · rw [hv] at h3
        obtain ⟨gg, g1, g2⟩ := s_go_aft hK h3.2
        have := hq pc lc (.inr (.inr o) :: vs0) rest M o1 h3.1 (by rw [← hv]; simpa using e1) (okA_iff hcat).1 (by rw [← hv]; exact (okA_iff hcat).2) gg g1 g2
        rw [← hv, List.reverse_reverse] at this
        exact this
    · exact h.elim
  case invokestatic ix =>
    dsimp only [lenI] at o1 o2; subst o2
    dsimp only [s_ins, s_inv] at h
    split at h
    · rename_i cl e hb
      obtain ⟨vr, rest, e1, e2, h3⟩ := splA_iff h
      subst e2
      cases hcat : okA (vr.reverse ++ []) rest with
      | false => rw [hcat] at h3; exact h3.elim
      | true =>
      rw [hcat] at h3
      dsimp only [cond_true] at h3
      simp only [List.append_nil] at h3 hcat
      have hq := hC _ (lkN_mem e)
      obtain ⟨gg, g1, g2⟩ := s_go_aft hK h3
      have := hq pc lc vr.reverse rest M o1 trivial (by simpa using e1) (okA_iff hcat).1 (okA_iff hcat).2 gg g1 g2
      rw [List.reverse_reverse] at this
      exact this
    · rename_i hb; cases hb
    · exact h.elim
  case ireturn => dsimp only [lenI] at o1 o2; exact aw_iret X hr hlocks hrt o1 h
  case return_ => dsimp only [lenI] at o1 o2; exact aw_ret X hr hlocks hrt o1 h
  all_goals exact h.elim
theorem s_run_sound {t : Tt} {N rt : Nat} {P : Pool} {k : Call} {g : k.1} {vs : List AV} {M0 : Mem} {ret : Option FieldType} (X : CX p s m args c cc nL own Ts Z) (hr : meth.sig.returnType = ret) (hlocks : meth.locks = false) (hrt : rtOk ret rt k) (hT : okT cc (tWn N t) N nL = true) (hP : PoolW own Ts P) (hln : ∀ a, lnF (zN Z) a < 2147483648)
    (hC : ∀ q ∈ P.2.2.2, CallOk (AW p l e R s m args below meth c nL Z (MQ below (Qcall Z k g vs M0) args s 0 0 (zB Z))) cc q) (stops : List Nat) :
    ∀ (n pc : Nat) (lc : Lc) (st : List AV) (M : Mem), s_run (tWn N t) P (rvF k g vs M0 rt) (zN Z) (AW p l e R s m args below meth c nL Z (MQ below (Qcall Z k g vs M0) args s 0 0 (zB Z))) stops n pc lc st M → AW p l e R s m args below meth c nL Z (MQ below (Qcall Z k g vs M0) args s 0 0 (zB Z)) pc lc st M := by
  intro n
  induction n with
  | zero => intro pc lc st M h; exact h
  | succ n ih =>
    intro pc lc st M h
    refine s_one_sound X hr hlocks hrt hT hP hln hC (fun pc lc st M h => ?_) h
    cases hs : elN stops pc with
    | true => rw [hs] at h; exact h.1
    | false => rw [hs] at h; exact ih pc lc st M h
end RULE
