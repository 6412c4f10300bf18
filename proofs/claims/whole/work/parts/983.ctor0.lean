/-! ===== constructors: a judgement over a world that grows ===== -/
abbrev rmc (d cn sl : Nat) : Room := { frames := d, cells := cn, slots := sl, locals := 64 * d }
def NW (U : State) : Prop := va_Nw (.methodLinkNest RX7 24 yX0_init "NumberArena") U ∧ va_Nw (.methodLinkNest RX0 11 yX5_init "NumberArena") U ∧ va_Nw (.methodLinkNest RX7 31 yX6_init "NumberArena") U ∧ va_Nw (.methodLinkNest RX7 38 yX3_init "NumberArena") U ∧ va_Nw (.methodLinkNest RX2 11 yX5_init "NumberArena") U ∧ va_Nw (.methodLinkNest RX7 61 yX5_init "NumberArena") U
theorem NW.warm {s U : State} (hW : s.WarmedH U.vm) (h : NW s) : NW U := ⟨va_Nw.warmM hW h.1, va_Nw.warmM hW h.2.1, va_Nw.warmM hW h.2.2.1, va_Nw.warmM hW h.2.2.2.1, va_Nw.warmM hW h.2.2.2.2.1, va_Nw.warmM hW h.2.2.2.2.2⟩
theorem NW.same {u U : State} (e : u.vm = U.vm) (h : NW u) : NW U := ⟨va_Nw.same rfl e h.1, va_Nw.same rfl e h.2.1, va_Nw.same rfl e h.2.2.1, va_Nw.same rfl e h.2.2.2.1, va_Nw.same rfl e h.2.2.2.2.1, va_Nw.same rfl e h.2.2.2.2.2⟩
/-- a new object's fields -/
def dfF (ci : Nat) : List Value := (List.range (nfF ci)).map (fun j => defaultValue (tyF ci j))
theorem dfF_at {ci j : Nat} (h : j < nfF ci) : defaultValue (tyF ci j) = vp_V (dfF ci) j := by
  unfold vp_V dfF
  rw [List.getD_eq_getElem?_getD, List.getElem?_map, List.getElem?_range h]
  rfl
theorem dfF_len (ci : Nat) : (dfF ci).length = nfF ci := by unfold dfF; simp
abbrev aI (cI : ClassId) (N : Nat) : va_E := .inl (cI, N, .inl (fun _ => 0))
/-- a constructor's contract: out of the new object, the world w1 -/
def Cst (l : Launch) (y : MethodName) (cc : ByteArray) (nL d cn sl : Nat) (D : va_G) (cI cB : ClassId) (ci : Nat) (As : List Value) (w1 : Nat → (Nat → Nat) → va_W) : Prop :=
  ∀ h0 sz : Nat, Met l y (WSy y cc nL none) (rmc d cn sl) (va_Pc (.ref h0 :: As) (fun U => U.heap.size = sz ∧ va_P D vwCl [(h0, .inr (ci, dfF ci))] U.heap ∧ va_K D vwCl [(cI, .int), (cB, .boolean)] U ∧ NW U ∧ va_D (fun _ => True) [(h0, .inr (ci, dfF ci))]))
    (va_Qv (fun _ : Nat → Nat => True) (fun a t => va_P D vwCl (w1 h0 a) t.heap ∧ va_D (va_A [(h0, .inr (ci, dfF ci))] sz) (w1 h0 a)) (va_A [(h0, .inr (ci, dfF ci))] sz)) cn sl (va_A [(h0, .inr (ci, dfF ci))] sz)
/-- a static method that only answers -/
def Sta (l : Launch) (y : MethodName) (cc : ByteArray) (nL d : Nat) (pre : State → Prop) (As : List Value) (r : Int32) : Prop :=
  Met l y (WSy y cc nL (some .int)) (rmc d 0 0) (va_Pc As pre) (va_Qi (fun r' (_ : Unit) => r' = r) (fun _ _ => True) (fun _ => False)) 0 0 (fun _ => False)
def GX (p : Program) (s : State) (m : MethodId) (args : Array Value) (c : Code) (cc : ByteArray) (nL : Nat) (own : String) (D : va_G) (cI cB : ClassId) (A : Nat → Prop) : Prop :=
  p.tables.exec = Jvm.exec ∧ c.code = cc ∧ c.maxLocals = nL ∧ s.vm.findClass own = some m.cls ∧ (∀ w ∈ BIG, w.before args s = true) ∧ va_K D vwCl [(cI, .int), (cB, .boolean)] s ∧ NW s ∧ ∀ q, s.heap.size ≤ q → A q
def GW (p : Program) (l : Launch) (e : Env) (R : Room) (s : State) (m : MethodId) (args : Array Value) (below : List Frame) (meth : Method) (c : Code) (nL : Nat) (D : va_G) (A : Nat → Prop) (Q : State → Prop) (pc : Nat) (lv : List (Nat × Value)) (st : List Value) (ws : va_W) (cells slots : Nat) : Prop :=
  ∀ (H : Heap) (locs : List Loc) (ls : Array Slot), lv_has ls nL lv → va_P D vwCl ws H → va_D A ws → va_S A s.heap H locs → W p l e R s m args below meth c H locs cells slots Q (F0 m pc ls st)
section GWR
variable {p : Program} {l : Launch} {e : Env} {R : Room} {s : State} {m : MethodId} {args : Array Value} {below : List Frame} {meth : Method} {c : Code} {Q : State → Prop} {cc : ByteArray} {nL : Nat} {own : String} {D : va_G} {cI cB : ClassId} {A : Nat → Prop}
variable {pc : Nat} {lv : List (Nat × Value)} {st : List Value} {ws : va_W} {cells slots : Nat}
theorem gw_wide {c2 s2 : Nat} (h1 : cells ≤ c2) (h2 : slots ≤ s2) (h : GW p l e R s m args below meth c nL D A Q pc lv st ws c2 s2) : GW p l e R s m args below meth c nL D A Q pc lv st ws cells slots :=
  fun H locs ls hl hP hD hS => W.widen h1 h2 (h H locs ls hl hP hD hS)
theorem gw_ws {ws2 : va_W} (h1 : ws = ws2) (h : GW p l e R s m args below meth c nL D A Q pc lv st ws2 cells slots) : GW p l e R s m args below meth c nL D A Q pc lv st ws cells slots := by
  rw [h1]
  exact h
theorem gw_al (X : GX p s m args c cc nL own D cI cB A) {k : Fin 4} {i a : Nat} (hd : decode cc pc = .ok (.aload_n k, 1)) (hi : (k : Nat) = i) (j : Nat) (hj : lv[j]? = some (i, .ref a)) (h : GW p l e R s m args below meth c nL D A Q (pc + 1) lv (.ref a :: st) ws cells slots) : GW p l e R s m args below meth c nL D A Q pc lv st ws cells slots :=
  fun H locs ls hl hP hD hS => lv_aload_n X.1 X.2.1 hd hi (lv_at hl j hj) (h H locs ls hl hP hD hS)
theorem gw_il (X : GX p s m args c cc nL own D cI cB A) {k : Fin 4} {i : Nat} {x : Int32} (hd : decode cc pc = .ok (.iload_n k, 1)) (hi : (k : Nat) = i) (j : Nat) (hj : lv[j]? = some (i, .int x)) (h : GW p l e R s m args below meth c nL D A Q (pc + 1) lv (.int x :: st) ws cells slots) : GW p l e R s m args below meth c nL D A Q pc lv st ws cells slots :=
  fun H locs ls hl hP hD hS => lv_iload_n X.1 X.2.1 hd hi (lv_at hl j hj) (h H locs ls hl hP hD hS)
theorem gw_il2 (X : GX p s m args c cc nL own D cI cB A) {i : Nat} {x : Int32} (hd : decode cc pc = .ok (.iload i, 2)) (j : Nat) (hj : lv[j]? = some (i, .int x)) (h : GW p l e R s m args below meth c nL D A Q (pc + 2) lv (.int x :: st) ws cells slots) : GW p l e R s m args below meth c nL D A Q pc lv st ws cells slots :=
  fun H locs ls hl hP hD hS => lv_iload X.1 X.2.1 hd (lv_at hl j hj) (h H locs ls hl hP hD hS)
theorem gw_ic (X : GX p s m args c cc nL own D cI cB A) {v : Int} (hd : decode cc pc = .ok (.iconst v, 1)) (h : GW p l e R s m args below meth c nL D A Q (pc + 1) lv (.int (Int32.ofInt v) :: st) ws cells slots) : GW p l e R s m args below meth c nL D A Q pc lv st ws cells slots :=
  fun H locs ls hl hP hD hS => lv_iconst X.1 X.2.1 hd rfl (h H locs ls hl hP hD hS)
theorem gw_bp (X : GX p s m args c cc nL own D cI cB A) {v : Int} (hd : decode cc pc = .ok (.bipush v, 2)) (hv : (Int8.ofInt v).toInt32 = Int32.ofInt v) (h : GW p l e R s m args below meth c nL D A Q (pc + 2) lv (.int (Int32.ofInt v) :: st) ws cells slots) : GW p l e R s m args below meth c nL D A Q pc lv st ws cells slots :=
  fun H locs ls hl hP hD hS => lv_bipush X.1 X.2.1 hd hv (h H locs ls hl hP hD hS)
theorem gw_sp (X : GX p s m args c cc nL own D cI cB A) {v : Int} (hd : decode cc pc = .ok (.sipush v, 3)) (hv : (Int16.ofInt v).toInt32 = Int32.ofInt v) (h : GW p l e R s m args below meth c nL D A Q (pc + 3) lv (.int (Int32.ofInt v) :: st) ws cells slots) : GW p l e R s m args below meth c nL D A Q pc lv st ws cells slots :=
  fun H locs ls hl hP hD hS => lv_sipush X.1 X.2.1 hd hv (h H locs ls hl hP hD hS)
theorem gw_iadd (X : GX p s m args c cc nL own D cI cB A) {x y : Int32} (hd : decode cc pc = .ok (.iadd, 1)) (h : GW p l e R s m args below meth c nL D A Q (pc + 1) lv (.int (x + y) :: st) ws cells slots) : GW p l e R s m args below meth c nL D A Q pc lv (.int y :: .int x :: st) ws cells slots :=
  fun H locs ls hl hP hD hS => lv_iadd X.1 X.2.1 hd (h H locs ls hl hP hD hS)
theorem gw_dup (X : GX p s m args c cc nL own D cI cB A) {a : Nat} (hd : decode cc pc = .ok (.dup, 1)) (h : GW p l e R s m args below meth c nL D A Q (pc + 1) lv (.ref a :: .ref a :: st) ws cells slots) : GW p l e R s m args below meth c nL D A Q pc lv (.ref a :: st) ws cells slots :=
  fun H locs ls hl hP hD hS => lv_dup X.1 X.2.1 hd rfl (h H locs ls hl hP hD hS)
theorem gw_ist (X : GX p s m args c cc nL own D cI cB A) {i : Nat} {x : Int32} {lv' : List (Nat × Value)} (hd : decode cc pc = .ok (.istore i, 2)) (hi : i < nL) (hl' : (i, Value.int x) :: lv.filter (fun q => !(q.1 == i) && !(q.1 + 1 == i && q.2.category == 2)) = lv') (h : GW p l e R s m args below meth c nL D A Q (pc + 2) lv' st ws cells slots) : GW p l e R s m args below meth c nL D A Q pc lv (.int x :: st) ws cells slots :=
  fun H locs ls hl hP hD hS => lv_istore X.1 X.2.1 hd hl hi hl' (fun ls' hl2 => h H locs ls' hl2 hP hD hS)
theorem gw_istn (X : GX p s m args c cc nL own D cI cB A) {k : Fin 4} {i : Nat} {x : Int32} {lv' : List (Nat × Value)} (hd : decode cc pc = .ok (.istore_n k, 1)) (hk : (k : Nat) = i) (hi : i < nL) (hl' : (i, Value.int x) :: lv.filter (fun q => !(q.1 == i) && !(q.1 + 1 == i && q.2.category == 2)) = lv') (h : GW p l e R s m args below meth c nL D A Q (pc + 1) lv' st ws cells slots) : GW p l e R s m args below meth c nL D A Q pc lv (.int x :: st) ws cells slots :=
  fun H locs ls hl hP hD hS => lv_istore_n X.1 X.2.1 hd hk hl hi hl' (fun ls' hl2 => h H locs ls' hl2 hP hD hS)
theorem gw_astn (X : GX p s m args c cc nL own D cI cB A) {k : Fin 4} {i x : Nat} {lv' : List (Nat × Value)} (hd : decode cc pc = .ok (.astore_n k, 1)) (hk : (k : Nat) = i) (hi : i < nL) (hl' : (i, Value.ref x) :: lv.filter (fun q => !(q.1 == i) && !(q.1 + 1 == i && q.2.category == 2)) = lv') (h : GW p l e R s m args below meth c nL D A Q (pc + 1) lv' st ws cells slots) : GW p l e R s m args below meth c nL D A Q pc lv (.ref x :: st) ws cells slots :=
  fun H locs ls hl hP hD hS => lv_astore_n X.1 X.2.1 hd hk hl hi hl' (fun ls' hl2 => h H locs ls' hl2 hP hD hS)
theorem obj_ow : Jvm.Cond.instanceMethod objectInit ∈ BIG ∧ Jvm.Cond.code objectInit ⟨#[0xb1]⟩ 1 none ∈ BIG := ⟨bigAt 72 (by decide +kernel) (by decide +kernel), bigAt 73 (by decide +kernel) (by decide +kernel)⟩
theorem gw_obj (X : GX p s m args c cc nL own D cI cB A) {ix a : Nat} (hw : Jvm.Cond.methodLink own ix objectInit ∈ BIG) (hd : decode cc pc = .ok (.invokespecial ix, 3)) (hf : 1 ≤ R.frames ∧ 12 ≤ R.locals) (h : GW p l e R s m args below meth c nL D A Q (pc + 3) lv [] ws cells slots) : GW p l e R s m args below meth c nL D A Q pc lv [.ref a] ws cells slots := by
  intro H locs ls hl hP hD hS
  refine W.objInit X.1 X.2.1 X.2.2.2.1 (X.2.2.2.2.1 _ hw) (X.2.2.2.2.1 _ obj_ow.1) (X.2.2.2.2.1 _ obj_ow.2) rfl (by rw [X.2.2.1]; exact hl.1) (a := a) (rest := []) rfl hd hf.1 (by show 2 * 0 + 0 + 12 ≤ _; have := hf.2; omega) ?_
  exact h H locs ls hl hP hD hS
theorem gw_new (X : GX p s m args c cc nL own D cI cB A) {ix ci : Nat} (hci : ci < 9) (hw : Jvm.Cond.classLink own ix (tnF ci) ∈ BIG ∧ Jvm.Cond.instantiable (tnF ci) (nfF ci) ∈ BIG ∧ Jvm.Cond.initialized (tnF ci) ∈ BIG) (hd : decode cc pc = .ok (.new ix, 3)) (hc : cells + 1 ≤ R.cells) (hs : slots + nfF ci ≤ R.slots)
    (h : ∀ q : Nat, GW p l e R s m args below meth c nL D A Q (pc + 3) lv (.ref q :: st) (ws ++ [(q, .inr (ci, dfF ci))]) (cells + 1) (slots + nfF ci)) : GW p l e R s m args below meth c nL D A Q pc lv st ws cells slots := by
  intro H locs ls hl hP hD hS
  obtain ⟨k1, k2, k3, k4⟩ := kindF ci hci
  exact va_new (ci := ci) (fs := dfF ci) (C := tnF ci) (T := ttF ci) (N := nfF ci) X.1 X.2.1 X.2.2.2.2.1 k2 (tyF ci) k3 X.2.2.2.1 (X.2.2.2.2.1 _ hw.1) (X.2.2.2.2.1 _ hw.2.1) (X.2.2.2.2.1 _ hw.2.2) X.2.2.2.2.2.1 hP hD hS X.2.2.2.2.2.2.2 k1 (fun j hj => dfF_at hj) hc hs hd (fun q H1 hP1 hD1 hS1 => h q H1 locs ls hl hP1 hD1 hS1)
theorem ofNat_big {N : Nat} (h : N ≤ 20000) : ¬ (Int32.ofNat N < 0) ∧ (Int32.ofNat N).toNatClampNeg = N := by
  refine ⟨?_, Int32.toNatClampNeg_ofNat_of_lt (by omega)⟩
  rw [Int32.not_lt, Int32.le_iff_toInt_le, Int32.toInt_ofNat_of_lt (by omega)]
  exact Int.natCast_nonneg N
theorem gw_newi (X : GX p s m args c cc nL own D cI cB A) {n : Int32} (N : Nat) (hn : n = Int32.ofNat N) (hN : N ≤ 20000) (hd : decode cc pc = .ok (.newarray .int, 2)) (hc : cells + 1 ≤ R.cells) (hs : slots + N ≤ R.slots)
    (h : ∀ q : Nat, GW p l e R s m args below meth c nL D A Q (pc + 2) lv (.ref q :: st) (ws ++ [(q, aI cI N)]) (cells + 1) (slots + N)) : GW p l e R s m args below meth c nL D A Q pc lv (.int n :: st) ws cells slots := by
  intro H locs ls hl hP hD hS
  subst hn
  refine va_newa (ty := .int) (N' := N) (a0 := (N, .inl (fun _ => 0))) X.1 X.2.1 (atype := .int) (X.2.2.2.2.1 _ (bigAt 117 (by decide +kernel) (by decide +kernel))) rfl X.2.2.2.2.2.1 hP hD hS X.2.2.2.2.2.2.2 (fun cA => rfl) (ofNat_big hN).1 (ofNat_big hN).2 (by show N * 4 ≤ _; omega) hc hs hd (fun q cA H1 hK1 hP1 hD1 hS1 => ?_)
  have e1 := (hK1.2 0 (cI, .int) rfl).2
  have e2 := (hK1.2 2 (cA, .int) rfl).2
  have e3 : cI = cA := Option.some.inj (e1.symm.trans e2)
  subst e3
  exact h q H1 locs ls hl hP1 hD1 hS1
theorem gw_newz (X : GX p s m args c cc nL own D cI cB A) {n : Int32} (N : Nat) (hn : n = Int32.ofNat N) (hN : N ≤ 20000) (hd : decode cc pc = .ok (.newarray .boolean, 2)) (hc : cells + 1 ≤ R.cells) (hs : slots + N ≤ R.slots)
    (h : ∀ q : Nat, GW p l e R s m args below meth c nL D A Q (pc + 2) lv (.ref q :: st) (ws ++ [(q, aI cB N)]) (cells + 1) (slots + N)) : GW p l e R s m args below meth c nL D A Q pc lv (.int n :: st) ws cells slots := by
  intro H locs ls hl hP hD hS
  subst hn
  refine va_newa (ty := .boolean) (N' := N) (a0 := (N, .inl (fun _ => 0))) X.1 X.2.1 (atype := .boolean) (X.2.2.2.2.1 _ (bigAt 888 (by decide +kernel) (by decide +kernel))) rfl X.2.2.2.2.2.1 hP hD hS X.2.2.2.2.2.2.2 (fun cA => rfl) (ofNat_big hN).1 (ofNat_big hN).2 (by show N * 1 ≤ _; omega) hc hs hd (fun q cA H1 hK1 hP1 hD1 hS1 => ?_)
  have e1 := (hK1.2 1 (cB, .boolean) rfl).2
  have e2 := (hK1.2 2 (cA, .boolean) rfl).2
  have e3 : cB = cA := Option.some.inj (e1.symm.trans e2)
  subst e3
  exact h q H1 locs ls hl hP1 hD1 hS1
theorem gw_putF (X : GX p s m args c cc nL own D cI cB A) {ix ci h0 : Nat} {fs : List Value} {v : Value} (k : Nat) (hin : meth.name = "<init>") (hci : ci < 9) (hk : k < nfF ci) (hl : k < fs.length) (hw : Jvm.Cond.fieldLink own ix (ttF ci k).1 (ttF ci k).2.1 (ttF ci k).2.2.1 ∈ BIG) (hfin : (ttF ci k).2.2.2 = true) (hdc : (ttF ci k).1 = own) (hn : narrow (tyF ci k) v = v) (hft : fits (tyF ci k) v = true) (hd : decode cc pc = .ok (.putfield ix, 3))
    (h : GW p l e R s m args below meth c nL D A Q (pc + 3) lv st ((h0, .inr (ci, fs.set k v)) :: ws) cells slots) : GW p l e R s m args below meth c nL D A Q pc lv (v :: .ref h0 :: st) ((h0, .inr (ci, fs)) :: ws) cells slots := by
  intro H locs ls hlv hP hD hS
  obtain ⟨k1, k2, k3, k4⟩ := kindF ci hci
  exact va_putF (D := D) (ci := ci) (v := v) (ty := tyF ci k) (C := tnF ci) (T := ttF ci) (N := nfF ci) X.1 X.2.1 X.2.2.2.2.1 k2 (tyF ci) k3 k4 X.2.2.2.1 X.2.2.2.2.2.1 hP hD hS 0 rfl k1 k hk (X.2.2.2.2.1 _ hw) (fun _ h9 => h9) hfin hin hdc (k3 k hk) hn hft hl hd (fun H1 locs1 hP1 hD1 hS1 => h H1 locs1 ls hlv hP1 hD1 hS1)
theorem gw_put (X : GX p s m args c cc nL own D cI cB A) {ix ci h0 : Nat} {fs : List Value} {v : Value} (k : Nat) (hci : ci < 9) (hk : k < nfF ci) (hl : k < fs.length) (hw : Jvm.Cond.fieldLink own ix (ttF ci k).1 (ttF ci k).2.1 (ttF ci k).2.2.1 ∈ BIG) (hfin : (ttF ci k).2.2.2 = false) (hn : narrow (tyF ci k) v = v) (hft : fits (tyF ci k) v = true) (hd : decode cc pc = .ok (.putfield ix, 3))
    (h : GW p l e R s m args below meth c nL D A Q (pc + 3) lv st ((h0, .inr (ci, fs.set k v)) :: ws) cells slots) : GW p l e R s m args below meth c nL D A Q pc lv (v :: .ref h0 :: st) ((h0, .inr (ci, fs)) :: ws) cells slots := by
  intro H locs ls hlv hP hD hS
  obtain ⟨k1, k2, k3, k4⟩ := kindF ci hci
  exact va_put (D := D) (ci := ci) (v := v) (ty := tyF ci k) (C := tnF ci) (T := ttF ci) (N := nfF ci) X.1 X.2.1 X.2.2.2.2.1 k2 (tyF ci) k3 k4 X.2.2.2.1 X.2.2.2.2.2.1 hP hD hS 0 rfl k1 k hk (X.2.2.2.2.1 _ hw) (fun _ h9 => h9) hfin (k3 k hk) hn hft hl hd (fun H1 locs1 hP1 hD1 hS1 => h H1 locs1 ls hlv hP1 hD1 hS1)
theorem va_nd_of : ∀ (x : List Nat), x.Nodup → va_nd x = true
  | [], _ => rfl
  | a :: r, h => by
    unfold va_nd
    have h2 := List.nodup_cons.mp h
    simp [h2.1, va_nd_of r h2.2]
theorem va_joinL {A0 : Nat → Prop} {ws w1 : va_W} {H H1 : Heap} {q : Nat × va_E} (hP : va_P D vwCl (ws ++ [q]) H) (hD : va_D A0 (ws ++ [q])) (hk : ∀ x : Nat, x < H.size → ¬ va_A [q] H.size x → H1[x]? = H[x]?) (hF : ∀ x, va_A [q] H.size x → A0 x) (hP1 : va_P D vwCl w1 H1) (hD1 : va_D (va_A [q] H.size) w1) : va_P D vwCl (ws ++ w1) H1 ∧ va_D A0 (ws ++ w1) := by
  refine va_join (wc := [q]) (wr := ws) hP hD [ws.length] (List.range ws.length) ?_ ?_ ?_ ?_ hk hF hP1 hD1
  · simp
  · apply List.ext_getElem?
    intro i
    by_cases h : i < ws.length
    · rw [List.getElem?_map, List.getElem?_map, List.getElem?_range h]
      show some ((ws ++ [q])[i]?) = (ws[i]?).map some
      rw [List.getElem?_append_left h, List.getElem?_eq_getElem h]
      rfl
    · simp [h]
  · exact va_nd_of _ List.nodup_range
  · intro i hi
    have := List.mem_range.mp hi
    simp
    omega
theorem gwI_pre {h0 sz ci : Nat} {As : List Value} : FrameBlind (va_Pc (.ref h0 :: As) (fun U => U.heap.size = sz ∧ va_P D vwCl [(h0, .inr (ci, dfF ci))] U.heap ∧ va_K D vwCl [(cI, .int), (cB, .boolean)] U ∧ NW U ∧ va_D (fun _ => True) [(h0, .inr (ci, dfF ci))])) :=
  fun a U g mk q => ⟨q.1, q.2.1, q.2.2.1, va_K.moved (u := U) (U := U.calling g mk a) (Vm.Alike.refl U.vm) q.2.2.2.1, NW.same rfl q.2.2.2.2.1, q.2.2.2.2.2⟩
theorem gw_init (X : GX p s m args c cc nL own D cI cB A) {y : MethodName} {cc' : ByteArray} {nL' d' cn sl ci ix q : Nat} {As rest : List Value} {w1 : Nat → (Nat → Nat) → va_W} (hC : Cst l y cc' nL' d' cn sl D cI cB ci As w1) (hw : Jvm.Cond.methodLink own ix y ∈ BIG) (hi : Jvm.Cond.instanceMethod y ∈ BIG) (hn : Jvm.Cond.initialized y.cls ∈ BIG) (hcw : Jvm.Cond.code y cc' nL' none ∈ BIG) (hy1 : y.name = "<init>")
    (hdd : y.cls ≠ "java/lang/invoke/MethodHandle" ∧ y.cls ≠ "java/lang/invoke/VarHandle" ∧ (parseMethodDescriptor y.desc).map (fun d => d.parameters.length) = some As.length) (hlev : d' + 1 ≤ R.frames ∧ 8 + (nL' + 11) + 64 * d' ≤ R.locals) (hcat : (rest.map fun v => v.category).sum ≤ 8) (hdec : decode cc pc = .ok (.invokespecial ix, 3)) (hc : cells + cn ≤ R.cells) (hs : slots + sl ≤ R.slots)
    (h : ∀ a : Nat → Nat, GW p l e R s m args below meth c nL D A Q (pc + 3) lv rest (ws ++ w1 q a) (cells + cn) (slots + sl)) : GW p l e R s m args below meth c nL D A Q pc lv (As.reverse ++ .ref q :: rest) (ws ++ [(q, .inr (ci, dfF ci))]) cells slots := by
  intro H locs ls hl hP hD hS
  have hG : GoodIn BIG (WSy y cc' nL' none) := fun w hw2 => by
    rcases List.mem_cons.mp hw2 with rfl | hw2
    · exact ⟨hcw, good_of_word (big_gd _ hcw)⟩
    · exact ⟨hw2, good_of_word (big_gd _ hw2)⟩
  have hPc : va_P D vwCl [(q, .inr (ci, dfF ci))] H := fun k x hx => hP (ws.length + k) x (by rw [List.getElem?_append_right (by omega), show ws.length + k - ws.length = k by omega]; exact hx)
  have hDc : va_D A [(q, .inr (ci, dfF ci))] := ⟨fun i j a b hi hj _ => by
    have h1 : i < 1 := (List.getElem?_eq_some_iff.mp hi).1
    have h2 : j < 1 := (List.getElem?_eq_some_iff.mp hj).1
    omega, fun k x hx => hD.2 (ws.length + k) x (by rw [List.getElem?_append_right (by omega), show ws.length + k - ws.length = k by omega]; exact hx)⟩
  have hFc : ∀ x, va_A [(q, .inr (ci, dfF ci))] H.size x → A x := va_free hDc hS X.2.2.2.2.2.2.2 [0] rfl
  refine va_callv (va_runI (g := F0 m pc ls (As.reverse ++ .ref q :: rest)) (As := As) (rest := rest) (b := q) ⟨X.1, X.2.1, X.2.2.1, X.2.2.2.1, X.2.2.2.2.1⟩ (hC q H.size) (cwI As.length X.2.2.2.2.1 hG rfl rfl rfl (X.2.2.2.2.1 _ hn) (X.2.2.2.2.1 _ hw) (X.2.2.2.2.1 _ hi) hy1 hdd hlev) ⟨gwI_pre, fun U hU hW => ⟨rfl, by rw [hU], by rw [hU]; exact hPc, va_K.moved hW.alike X.2.2.2.2.2.1, NW.warm hW X.2.2.2.2.2.2.1, hDc.weaken (fun _ _ _ _ => trivial)⟩⟩ rfl rfl hl.1 rfl (lv_room hcat) hdec ⟨hc, hs⟩) hS (fun x _ h => hFc x h) hFc (fun u t H1 locs1 ht hvm _ hB hz1 hk1 hS1 => ?_)
  rw [ht] at hB
  obtain ⟨hP2, hD2⟩ := va_joinL hP hD hk1 hFc hB.1 hB.2
  exact h u H1 locs1 ls hl hP2 hD2 hS1
theorem gw_initN (X : GX p s m args c cc nL own D cI cB A) {y : MethodName} {cc' : ByteArray} {nL' d' cn sl ci ix q : Nat} {As rest : List Value} {w1 : Nat → (Nat → Nat) → va_W} (hC : Cst l y cc' nL' d' cn sl D cI cB ci As w1) (hw : va_Nw (.methodLinkNest own ix y "NumberArena") s) (hi : Jvm.Cond.instanceMethod y ∈ BIG) (hn : Jvm.Cond.initialized y.cls ∈ BIG) (hcw : Jvm.Cond.code y cc' nL' none ∈ BIG) (hy1 : y.name = "<init>")
    (hdd : y.cls ≠ "java/lang/invoke/MethodHandle" ∧ y.cls ≠ "java/lang/invoke/VarHandle" ∧ (parseMethodDescriptor y.desc).map (fun d => d.parameters.length) = some As.length) (hlev : d' + 1 ≤ R.frames ∧ 8 + (nL' + 11) + 64 * d' ≤ R.locals) (hcat : (rest.map fun v => v.category).sum ≤ 8) (hdec : decode cc pc = .ok (.invokespecial ix, 3)) (hc : cells + cn ≤ R.cells) (hs : slots + sl ≤ R.slots)
    (h : ∀ a : Nat → Nat, GW p l e R s m args below meth c nL D A Q (pc + 3) lv rest (ws ++ w1 q a) (cells + cn) (slots + sl)) : GW p l e R s m args below meth c nL D A Q pc lv (As.reverse ++ .ref q :: rest) (ws ++ [(q, .inr (ci, dfF ci))]) cells slots := by
  intro H locs ls hl hP hD hS
  have hG : GoodIn BIG (WSy y cc' nL' none) := fun w hw2 => by
    rcases List.mem_cons.mp hw2 with rfl | hw2
    · exact ⟨hcw, good_of_word (big_gd _ hcw)⟩
    · exact ⟨hw2, good_of_word (big_gd _ hw2)⟩
  have hPc : va_P D vwCl [(q, .inr (ci, dfF ci))] H := fun k x hx => hP (ws.length + k) x (by rw [List.getElem?_append_right (by omega), show ws.length + k - ws.length = k by omega]; exact hx)
  have hDc : va_D A [(q, .inr (ci, dfF ci))] := ⟨fun i j a b hi hj _ => by
    have h1 : i < 1 := (List.getElem?_eq_some_iff.mp hi).1
    have h2 : j < 1 := (List.getElem?_eq_some_iff.mp hj).1
    omega, fun k x hx => hD.2 (ws.length + k) x (by rw [List.getElem?_append_right (by omega), show ws.length + k - ws.length = k by omega]; exact hx)⟩
  have hFc : ∀ x, va_A [(q, .inr (ci, dfF ci))] H.size x → A x := va_free hDc hS X.2.2.2.2.2.2.2 [0] rfl
  refine va_callv (va_runIN (g := F0 m pc ls (As.reverse ++ .ref q :: rest)) (As := As) (rest := rest) (b := q) ⟨X.1, X.2.1, X.2.2.1, X.2.2.2.1, X.2.2.2.2.1⟩ (hC q H.size) ⟨va_cnB As.length X.2.2.2.2.1 hG rfl rfl rfl hw (X.2.2.2.2.1 _ hn) hdd hlev, hy1, X.2.2.2.2.1 _ hi⟩ ⟨gwI_pre, fun U hU hW => ⟨rfl, by rw [hU], by rw [hU]; exact hPc, va_K.moved hW.alike X.2.2.2.2.2.1, NW.warm hW X.2.2.2.2.2.2.1, hDc.weaken (fun _ _ _ _ => trivial)⟩⟩ rfl rfl hl.1 rfl (lv_room hcat) hdec ⟨hc, hs⟩) hS (fun x _ h => hFc x h) hFc (fun u t H1 locs1 ht hvm _ hB hz1 hk1 hS1 => ?_)
  rw [ht] at hB
  obtain ⟨hP2, hD2⟩ := va_joinL hP hD hk1 hFc hB.1 hB.2
  exact h u H1 locs1 ls hl hP2 hD2 hS1
theorem gw_stat (X : GX p s m args c cc nL own D cI cB A) {y : MethodName} {cc' : ByteArray} {nL' d' ix : Nat} {As rest : List Value} {r : Int32} {pre : State → Prop} (hC : Sta l y cc' nL' d' pre As r) (hbl : FrameBlind (va_Pc As pre)) (hpre : ∀ (H : Heap) (locs : List Loc), va_S A s.heap H locs → ∀ U : State, U.heap = H → s.WarmedH U.vm → pre U) (hw : Jvm.Cond.methodLink own ix y ∈ BIG) (hi : Jvm.Cond.static y ∈ BIG) (hn : Jvm.Cond.initialized y.cls ∈ BIG) (hcw : Jvm.Cond.code y cc' nL' (some .int) ∈ BIG)
    (hdd : y.cls ≠ "java/lang/invoke/MethodHandle" ∧ y.cls ≠ "java/lang/invoke/VarHandle" ∧ (parseMethodDescriptor y.desc).map (fun d => d.parameters.length) = some As.length) (hlev : d' + 1 ≤ R.frames ∧ 8 + (nL' + 11) + 64 * d' ≤ R.locals) (hcat : (rest.map fun v => v.category).sum ≤ 8) (hdec : decode cc pc = .ok (.invokestatic ix, 3)) (hc : cells ≤ R.cells) (hs : slots ≤ R.slots)
    (h : GW p l e R s m args below meth c nL D A Q (pc + 3) lv (.int r :: rest) ws cells slots) : GW p l e R s m args below meth c nL D A Q pc lv (As.reverse ++ rest) ws cells slots := by
  intro H locs ls hl hP hD hS
  have hG : GoodIn BIG (va_wsS own ix y (WSy y cc' nL' (some .int))) := fun w hw2 => by
    have hb : w ∈ BIG := by
      rcases List.mem_append.mp hw2 with hw2 | hw2
      · simp only [List.mem_cons, List.not_mem_nil, or_false] at hw2
        rcases hw2 with rfl | rfl | rfl <;> assumption
      · rcases List.mem_cons.mp hw2 with rfl | hw2
        · exact hcw
        · exact hw2
    exact ⟨hb, good_of_word (big_gd _ hb)⟩
  have hcw2 := va_cwS (R := R) (rm := rmc d' 0 0) (mc := 0) (ms := 0) As.length X.2.2.2.2.1 hG rfl rfl rfl hdd hlev
  refine va_calli (A1 := fun _ => False) (va_runS (g := F0 m pc ls (As.reverse ++ rest)) (As := As) (rest := rest) ⟨X.1, X.2.1, X.2.2.1, X.2.2.2.1, X.2.2.2.2.1⟩ hC hcw2 ⟨hbl, fun U hU hW => ⟨rfl, hpre H locs hS U hU hW⟩⟩ rfl rfl hl.1 rfl (lv_room hcat) hdec ⟨hc, hs⟩) hS (fun _ _ h => h.elim) (fun _ h => h.elim) (fun r1 u t H1 locs1 ht hvm hr1 _ hz1 hk1 hS1 => ?_)
  rw [hr1]
  exact h H1 locs1 ls hl (hP.kept (fun k x hx => hk1 _ ((hP k x hx).lt) (fun h => h))) hD hS1
end GWR
theorem mkCst {l : Launch} {y : MethodName} {cc : ByteArray} {nL d cn sl : Nat} {D : va_G} {cI cB : ClassId} {ci : Nat} {As : List Value} {w1 : Nat → (Nat → Nat) → va_W} (hy : plainName y.cls = true) (hn : (lg_sl (.ref 0 :: As)).length ≤ nL)
    (body : ∀ (p : Program) (e : Env) (s : State) (m : MethodId) (below : List Frame) (meth : Method) (c : Code) (h0 : Nat) (A : Nat → Prop) (Q : State → Prop), GX p s m (Value.ref h0 :: As).toArray c cc nL y.cls D cI cB A → meth.name = y.name →
      (∀ (a : Nat → Nat) (pc : Nat) (lv : List (Nat × Value)), decode cc pc = .ok (.return_, 1) → GW p l e (rmc d cn sl) s m (Value.ref h0 :: As).toArray below meth c nL D A Q pc lv [] (w1 h0 a) cn sl) →
      GW p l e (rmc d cn sl) s m (Value.ref h0 :: As).toArray below meth c nL D A Q 0 (lv_args 0 (.ref h0 :: As)) [] [(h0, .inr (ci, dfF ci))] 0 0) : Cst l y cc nL d cn sl D cI cB ci As w1 := by
  intro h0 sz
  refine Met.ofW (cc := cc) (maxL := nL) (ret := none) hy rfl ?_
  intro p e s m args below meth c s₁ B hml hv
  obtain ⟨rfl, hsz, hP, hK, hNW, hD0⟩ := hv
  have hts := atoms_spec (ws := WSy y cc nL none) B.pre
  have hown : s.vm.findClass y.cls = some m.cls := findClass_of_methodNamed B.named
  have hnm : meth.name = y.name := (name_of_methodNamed B.named B.method).1
  subst hsz
  have hD := hD0.self (sz := s.heap.size)
  have hlocks := B.notSynchronized
  have hl := lv_entry (.ref h0 :: As) (n := nL) hn
  rw [lg_entry_eq]
  refine body p e s m below meth c h0 (va_A [(h0, .inr (ci, dfF ci))] s.heap.size) _ ⟨B.exec, B.bytes, hml, hown, fun w hw => hts w (List.mem_cons_of_mem _ hw), hK, hNW, fun q h => Or.inr h⟩ hnm ?_ s.heap [] _ hl hP hD va_S.rf
  intro a pc lv hdec H locs ls hl2 hP2 hD2 hS2
  exact W.vret B.exec B.bytes B.returns (fun t ht hW => ⟨⟨a, rfl, trivial, by rw [ht]; exact hP2, hD2⟩, hS2.F ht⟩) hS2.2.2 hdec
