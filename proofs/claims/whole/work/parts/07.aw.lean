/-! ===== the machine's judgement over the memory ===== -/
def AW (p : Program) (l : Launch) (e : Env) (R : Room) (s : State) (m : MethodId) (args : Array Value) (below : List Frame) (meth : Method) (c : Code) (nL : Nat) (Z : ZT) (Q : State → Prop) : Kt := fun pc lc st M =>
  ∀ (H : Heap) (locs : List Loc) (ls : Array Slot), LH Z ls nL lc → va_P Z.1 vwCl (wldF Z M) H → va_S (zB Z) s.heap H locs → W p l e R s m args below meth c H locs 0 0 Q (F0 m pc ls (st.map (cvF Z)))
/-- what stays during a method -/
def CX (p : Program) (s : State) (m : MethodId) (args : Array Value) (c : Code) (cc : ByteArray) (nL : Nat) (own : String) (Ts : List Jvm.Cond) (Z : ZT) : Prop :=
  p.tables.exec = Jvm.exec ∧ c.code = cc ∧ c.maxLocals = nL ∧ s.vm.findClass own = some m.cls ∧ (∀ w ∈ Ts, w.before args s = true) ∧ va_K Z.1 vwCl (zT Z) s ∧ adOk Z
section SND
variable {p : Program} {l : Launch} {e : Env} {R : Room} {s : State} {m : MethodId} {args : Array Value} {below : List Frame} {meth : Method} {c : Code} {Q : State → Prop} {cc : ByteArray} {nL : Nat} {own : String} {Ts : List Jvm.Cond} {Z : ZT}
variable {pc : Nat} {lc : Lc} {st : List AV} {M : Mem}
theorem aw_iconst (X : CX p s m args c cc nL own Ts Z) {v : Int} (hd : decode cc pc = .ok (.iconst v, 1)) (h : AW p l e R s m args below meth c nL Z Q (pc + 1) lc (.inl v :: st) M) : AW p l e R s m args below meth c nL Z Q pc lc st M := by
  intro H locs ls hl hP hS
  exact lv_iconst X.1 X.2.1 hd rfl (h H locs ls hl hP hS)
theorem aw_bipush (X : CX p s m args c cc nL own Ts Z) {v : Int} (h1 : -128 ≤ v) (h2 : v < 128) (hd : decode cc pc = .ok (.bipush v, 2)) (h : AW p l e R s m args below meth c nL Z Q (pc + 2) lc (.inl v :: st) M) : AW p l e R s m args below meth c nL Z Q pc lc st M := by
  intro H locs ls hl hP hS
  refine lv_bipush X.1 X.2.1 hd (v := Int32.ofInt v) ?_ (h H locs ls hl hP hS)
  rw [← Int32.ofInt_int8ToInt, Int8.toInt_ofInt_of_le (by omega) (by omega)]
theorem aw_sipush (X : CX p s m args c cc nL own Ts Z) {v : Int} (h1 : -32768 ≤ v) (h2 : v < 32768) (hd : decode cc pc = .ok (.sipush v, 3)) (h : AW p l e R s m args below meth c nL Z Q (pc + 3) lc (.inl v :: st) M) : AW p l e R s m args below meth c nL Z Q pc lc st M := by
  intro H locs ls hl hP hS
  refine lv_sipush X.1 X.2.1 hd (v := Int32.ofInt v) ?_ (h H locs ls hl hP hS)
  rw [← Int32.ofInt_int16ToInt, Int16.toInt_ofInt_of_le (by omega) (by omega)]
theorem aw_ldc (X : CX p s m args c cc nL own Ts Z) {ix : Nat} {v : Int} (hw : Jvm.Cond.constant own ix (Int32.ofInt v) ∈ Ts) (hd : decode cc pc = .ok (.ldc ix, 2)) (h : AW p l e R s m args below meth c nL Z Q (pc + 2) lc (.inl v :: st) M) : AW p l e R s m args below meth c nL Z Q pc lc st M := by
  intro H locs ls hl hP hS
  exact lv_ldc X.1 X.2.1 X.2.2.2.1 (X.2.2.2.2.1 _ hw) hd (h H locs ls hl hP hS)
theorem aw_ldcw (X : CX p s m args c cc nL own Ts Z) {ix : Nat} {v : Int} (hw : Jvm.Cond.constant own ix (Int32.ofInt v) ∈ Ts) (hd : decode cc pc = .ok (.ldc_w ix, 3)) (h : AW p l e R s m args below meth c nL Z Q (pc + 3) lc (.inl v :: st) M) : AW p l e R s m args below meth c nL Z Q pc lc st M := by
  intro H locs ls hl hP hS
  exact lv_ldcw X.1 X.2.1 X.2.2.2.1 (X.2.2.2.2.1 _ hw) hd (h H locs ls hl hP hS)
theorem aw_ldc2 (X : CX p s m args c cc nL own Ts Z) {ix : Nat} {v : Int} (hw : Jvm.Cond.constantLong own ix (Int64.ofInt v) ∈ Ts) (hd : decode cc pc = .ok (.ldc2_w ix, 3)) (h : AW p l e R s m args below meth c nL Z Q (pc + 3) lc (.inr (.inl v) :: st) M) : AW p l e R s m args below meth c nL Z Q pc lc st M := by
  intro H locs ls hl hP hS
  exact lv_ldc2 X.1 X.2.1 X.2.2.2.1 (X.2.2.2.2.1 _ hw) hd (h H locs ls hl hP hS)
theorem aw_lconst (X : CX p s m args c cc nL own Ts Z) {v : Fin 2} (hd : decode cc pc = .ok (.lconst v, 1)) (h : AW p l e R s m args below meth c nL Z Q (pc + 1) lc (.inr (.inl (v.val : Int)) :: st) M) : AW p l e R s m args below meth c nL Z Q pc lc st M := by
  intro H locs ls hl hP hS
  exact lv_lconst X.1 X.2.1 hd Int64.ofInt_eq_ofNat.symm (h H locs ls hl hP hS)
theorem aw_iload (X : CX p s m args c cc nL own Ts Z) {k : Nat} {x : Int} (hk : lc[k]? = some (some (.inl x))) (hd : decode cc pc = .ok (.iload k, 2)) (h : AW p l e R s m args below meth c nL Z Q (pc + 2) lc (.inl x :: st) M) : AW p l e R s m args below meth c nL Z Q pc lc st M := by
  intro H locs ls hl hP hS
  exact lv_iload X.1 X.2.1 hd (hl.get hk) (h H locs ls hl hP hS)
theorem aw_iload_n (X : CX p s m args c cc nL own Ts Z) {k : Fin 4} {x : Int} (hk : lc[k.val]? = some (some (.inl x))) (hd : decode cc pc = .ok (.iload_n k, 1)) (h : AW p l e R s m args below meth c nL Z Q (pc + 1) lc (.inl x :: st) M) : AW p l e R s m args below meth c nL Z Q pc lc st M := by
  intro H locs ls hl hP hS
  exact lv_iload_n X.1 X.2.1 hd rfl (hl.get hk) (h H locs ls hl hP hS)
theorem aw_lload (X : CX p s m args c cc nL own Ts Z) {k : Nat} {x : Int} (hk : lc[k]? = some (some (.inr (.inl x)))) (hd : decode cc pc = .ok (.lload k, 2)) (h : AW p l e R s m args below meth c nL Z Q (pc + 2) lc (.inr (.inl x) :: st) M) : AW p l e R s m args below meth c nL Z Q pc lc st M := by
  intro H locs ls hl hP hS
  exact lv_lload X.1 X.2.1 hd (hl.get hk) (h H locs ls hl hP hS)
theorem aw_lload_n (X : CX p s m args c cc nL own Ts Z) {k : Fin 4} {x : Int} (hk : lc[k.val]? = some (some (.inr (.inl x)))) (hd : decode cc pc = .ok (.lload_n k, 1)) (h : AW p l e R s m args below meth c nL Z Q (pc + 1) lc (.inr (.inl x) :: st) M) : AW p l e R s m args below meth c nL Z Q pc lc st M := by
  intro H locs ls hl hP hS
  exact lv_lload_n X.1 X.2.1 hd rfl (hl.get hk) (h H locs ls hl hP hS)
theorem aw_aload (X : CX p s m args c cc nL own Ts Z) {k : Nat} {x : Nat} (hk : lc[k]? = some (some (.inr (.inr x)))) (hd : decode cc pc = .ok (.aload k, 2)) (h : AW p l e R s m args below meth c nL Z Q (pc + 2) lc (.inr (.inr x) :: st) M) : AW p l e R s m args below meth c nL Z Q pc lc st M := by
  intro H locs ls hl hP hS
  exact lv_aload X.1 X.2.1 hd (hl.get hk) (h H locs ls hl hP hS)
theorem aw_aload_n (X : CX p s m args c cc nL own Ts Z) {k : Fin 4} {x : Nat} (hk : lc[k.val]? = some (some (.inr (.inr x)))) (hd : decode cc pc = .ok (.aload_n k, 1)) (h : AW p l e R s m args below meth c nL Z Q (pc + 1) lc (.inr (.inr x) :: st) M) : AW p l e R s m args below meth c nL Z Q pc lc st M := by
  intro H locs ls hl hP hS
  exact lv_aload_n X.1 X.2.1 hd rfl (hl.get hk) (h H locs ls hl hP hS)
theorem aw_istore (X : CX p s m args c cc nL own Ts Z) {k : Nat} {x : Int} (hn : k < nL) (hd : decode cc pc = .ok (.istore k, 2)) (h : AW p l e R s m args below meth c nL Z Q (pc + 2) (sv1 lc k (.inl x)) st M) : AW p l e R s m args below meth c nL Z Q pc lc (.inl x :: st) M := by
  intro H locs ls hl hP hS
  obtain ⟨hlen, lv, h1, h2⟩ := hl
  exact lv_istore X.1 X.2.1 hd h1 hn rfl (fun ls' hl' => h H locs ls' (LH.one hlen h2 hl') hP hS)
theorem aw_istore_n (X : CX p s m args c cc nL own Ts Z) {k : Fin 4} {x : Int} (hn : k.val < nL) (hd : decode cc pc = .ok (.istore_n k, 1)) (h : AW p l e R s m args below meth c nL Z Q (pc + 1) (sv1 lc k.val (.inl x)) st M) : AW p l e R s m args below meth c nL Z Q pc lc (.inl x :: st) M := by
  intro H locs ls hl hP hS
  obtain ⟨hlen, lv, h1, h2⟩ := hl
  exact lv_istore_n X.1 X.2.1 hd rfl h1 hn rfl (fun ls' hl' => h H locs ls' (LH.one hlen h2 hl') hP hS)
theorem aw_astore (X : CX p s m args c cc nL own Ts Z) {k : Nat} {x : Nat} (hn : k < nL) (hd : decode cc pc = .ok (.astore k, 2)) (h : AW p l e R s m args below meth c nL Z Q (pc + 2) (sv1 lc k (.inr (.inr x))) st M) : AW p l e R s m args below meth c nL Z Q pc lc (.inr (.inr x) :: st) M := by
  intro H locs ls hl hP hS
  obtain ⟨hlen, lv, h1, h2⟩ := hl
  exact lv_astore X.1 X.2.1 hd h1 hn rfl (fun ls' hl' => h H locs ls' (LH.one hlen h2 hl') hP hS)
theorem aw_astore_n (X : CX p s m args c cc nL own Ts Z) {k : Fin 4} {x : Nat} (hn : k.val < nL) (hd : decode cc pc = .ok (.astore_n k, 1)) (h : AW p l e R s m args below meth c nL Z Q (pc + 1) (sv1 lc k.val (.inr (.inr x))) st M) : AW p l e R s m args below meth c nL Z Q pc lc (.inr (.inr x) :: st) M := by
  intro H locs ls hl hP hS
  obtain ⟨hlen, lv, h1, h2⟩ := hl
  exact lv_astore_n X.1 X.2.1 hd rfl h1 hn rfl (fun ls' hl' => h H locs ls' (LH.one hlen h2 hl') hP hS)
theorem aw_lstore (X : CX p s m args c cc nL own Ts Z) {k : Nat} {x : Int} (hn : k + 1 < nL) (hd : decode cc pc = .ok (.lstore k, 2)) (h : AW p l e R s m args below meth c nL Z Q (pc + 2) (sv2 lc k (.inr (.inl x))) st M) : AW p l e R s m args below meth c nL Z Q pc lc (.inr (.inl x) :: st) M := by
  intro H locs ls hl hP hS
  obtain ⟨hlen, lv, h1, h2⟩ := hl
  exact lv_lstore X.1 X.2.1 hd h1 hn rfl (fun ls' hl' => h H locs ls' (LH.two hlen h2 hl') hP hS)
theorem aw_lstore_n (X : CX p s m args c cc nL own Ts Z) {k : Fin 4} {x : Int} (hn : k.val + 1 < nL) (hd : decode cc pc = .ok (.lstore_n k, 1)) (h : AW p l e R s m args below meth c nL Z Q (pc + 1) (sv2 lc k.val (.inr (.inl x))) st M) : AW p l e R s m args below meth c nL Z Q pc lc (.inr (.inl x) :: st) M := by
  intro H locs ls hl hP hS
  obtain ⟨hlen, lv, h1, h2⟩ := hl
  exact lv_lstore_n X.1 X.2.1 hd rfl h1 hn rfl (fun ls' hl' => h H locs ls' (LH.two hlen h2 hl') hP hS)
theorem aw_iinc (X : CX p s m args c cc nL own Ts Z) {k : Nat} {x n : Int} (hk : lc[k]? = some (some (.inl x))) (hn : k < nL) (hd : decode cc pc = .ok (.iinc k n, 3)) (h : AW p l e R s m args below meth c nL Z Q (pc + 3) (sv1 lc k (.inl (x + n))) st M) : AW p l e R s m args below meth c nL Z Q pc lc st M := by
  intro H locs ls hl hP hS
  obtain ⟨hlen, lv, h1, h2⟩ := hl
  obtain ⟨q, hq⟩ := List.getElem?_of_mem (h2 k _ hk)
  exact lv_iinc (v := Int32.ofInt (x + n)) X.1 X.2.1 hd h1 hq (Int32.ofInt_add _ _).symm hn rfl (fun ls' hl' => h H locs ls' (LH.one (v := .inl (x + n)) hlen h2 hl') hP hS)
theorem aw_iadd (X : CX p s m args c cc nL own Ts Z) {x y : Int} (hd : decode cc pc = .ok (.iadd, 1)) (h : AW p l e R s m args below meth c nL Z Q (pc + 1) lc (.inl (x + y) :: st) M) : AW p l e R s m args below meth c nL Z Q pc lc (.inl y :: .inl x :: st) M := by
  intro H locs ls hl hP hS
  have h := h H locs ls hl hP hS
  rw [List.map_cons, show cvF Z (.inl (x + y)) = .int (Int32.ofInt x + Int32.ofInt y) by rw [← Int32.ofInt_add]; rfl] at h
  exact lv_iadd X.1 X.2.1 hd h
theorem aw_isub (X : CX p s m args c cc nL own Ts Z) {x y : Int} (hd : decode cc pc = .ok (.isub, 1)) (h : AW p l e R s m args below meth c nL Z Q (pc + 1) lc (.inl (x - y) :: st) M) : AW p l e R s m args below meth c nL Z Q pc lc (.inl y :: .inl x :: st) M := by
  intro H locs ls hl hP hS
  have h := h H locs ls hl hP hS
  rw [List.map_cons, show cvF Z (.inl (x - y)) = .int (Int32.ofInt x - Int32.ofInt y) by rw [← Int32.ofInt_sub]; rfl] at h
  exact lv_isub X.1 X.2.1 hd h
theorem aw_imul (X : CX p s m args c cc nL own Ts Z) {x y : Int} (hd : decode cc pc = .ok (.imul, 1)) (h : AW p l e R s m args below meth c nL Z Q (pc + 1) lc (.inl (x * y) :: st) M) : AW p l e R s m args below meth c nL Z Q pc lc (.inl y :: .inl x :: st) M := by
  intro H locs ls hl hP hS
  have h := h H locs ls hl hP hS
  rw [List.map_cons, show cvF Z (.inl (x * y)) = .int (Int32.ofInt x * Int32.ofInt y) by rw [← Int32.ofInt_mul]; rfl] at h
  exact lv_imul X.1 X.2.1 hd h
theorem aw_iand (X : CX p s m args c cc nL own Ts Z) {x y : Int} (hd : decode cc pc = .ok (.iand, 1)) (h : AW p l e R s m args below meth c nL Z Q (pc + 1) lc (.inl (bAnd x y) :: st) M) : AW p l e R s m args below meth c nL Z Q pc lc (.inl y :: .inl x :: st) M := by
  intro H locs ls hl hP hS
  have h := h H locs ls hl hP hS
  rw [List.map_cons, show cvF Z (.inl (bAnd x y)) = .int (Int32.ofInt x &&& Int32.ofInt y) from congrArg Value.int (Int32.ofInt_toInt _)] at h
  exact lv_iand X.1 X.2.1 hd h
theorem aw_ior (X : CX p s m args c cc nL own Ts Z) {x y : Int} (hd : decode cc pc = .ok (.ior, 1)) (h : AW p l e R s m args below meth c nL Z Q (pc + 1) lc (.inl (bOr x y) :: st) M) : AW p l e R s m args below meth c nL Z Q pc lc (.inl y :: .inl x :: st) M := by
  intro H locs ls hl hP hS
  have h := h H locs ls hl hP hS
  rw [List.map_cons, show cvF Z (.inl (bOr x y)) = .int (Int32.ofInt x ||| Int32.ofInt y) from congrArg Value.int (Int32.ofInt_toInt _)] at h
  exact lv_ior X.1 X.2.1 hd h
theorem aw_ixor (X : CX p s m args c cc nL own Ts Z) {x y : Int} (hd : decode cc pc = .ok (.ixor, 1)) (h : AW p l e R s m args below meth c nL Z Q (pc + 1) lc (.inl (bXor x y) :: st) M) : AW p l e R s m args below meth c nL Z Q pc lc (.inl y :: .inl x :: st) M := by
  intro H locs ls hl hP hS
  have h := h H locs ls hl hP hS
  rw [List.map_cons, show cvF Z (.inl (bXor x y)) = .int (Int32.ofInt x ^^^ Int32.ofInt y) from congrArg Value.int (Int32.ofInt_toInt _)] at h
  exact lv_ixor X.1 X.2.1 hd h
theorem nz_of {y : Int} (hy : inR y) (h1 : 0 < y) : ¬ Int32.ofInt y = 0 := by
  intro he
  have : Int32.ofInt y = Int32.ofInt 0 := he
  rw [inR_inj hy inR_0] at this
  omega
theorem nzL_of {y : Int} (hy : inL y) (h1 : 0 < y) : ¬ Int64.ofInt y = 0 := by
  intro he
  have : (Int64.ofInt y).toInt = (0 : Int64).toInt := by rw [he]
  rw [inL_to hy] at this
  have h9 : (0 : Int64).toInt = 0 := by decide
  omega
theorem aw_idiv (X : CX p s m args c cc nL own Ts Z) {x y : Int} (hc : 0 ≤ x ∧ 0 < y ∧ inR x ∧ inR y) (hd : decode cc pc = .ok (.idiv, 1)) (h : AW p l e R s m args below meth c nL Z Q (pc + 1) lc (.inl (x / y) :: st) M) : AW p l e R s m args below meth c nL Z Q pc lc (.inl y :: .inl x :: st) M := by
  intro H locs ls hl hP hS
  have h := h H locs ls hl hP hS
  rw [List.map_cons, show cvF Z (.inl (x / y)) = .int (Int32.ofInt x / Int32.ofInt y) by rw [inR_div hc.2.2.1 hc.2.2.2 hc.1 hc.2.1]; rfl] at h
  exact lv_idiv X.1 X.2.1 hd (nz_of hc.2.2.2 hc.2.1) h
theorem aw_irem (X : CX p s m args c cc nL own Ts Z) {x y : Int} (hc : 0 ≤ x ∧ 0 < y ∧ inR x ∧ inR y) (hd : decode cc pc = .ok (.irem, 1)) (h : AW p l e R s m args below meth c nL Z Q (pc + 1) lc (.inl (x % y) :: st) M) : AW p l e R s m args below meth c nL Z Q pc lc (.inl y :: .inl x :: st) M := by
  intro H locs ls hl hP hS
  have h := h H locs ls hl hP hS
  rw [List.map_cons, show cvF Z (.inl (x % y)) = .int (Int32.ofInt x - Int32.ofInt x / Int32.ofInt y * Int32.ofInt y) by rw [inR_rem hc.2.2.1 hc.2.2.2 hc.1 hc.2.1]; rfl] at h
  exact lv_irem X.1 X.2.1 hd (nz_of hc.2.2.2 hc.2.1) h
theorem aw_ishl (X : CX p s m args c cc nL own Ts Z) {x y : Int} (hc : 0 ≤ y ∧ y < 32) (hd : decode cc pc = .ok (.ishl, 1)) (h : AW p l e R s m args below meth c nL Z Q (pc + 1) lc (.inl (x * 2 ^ y.toNat) :: st) M) : AW p l e R s m args below meth c nL Z Q pc lc (.inl y :: .inl x :: st) M := by
  intro H locs ls hl hP hS
  have h := h H locs ls hl hP hS
  rw [List.map_cons, show cvF Z (.inl (x * 2 ^ y.toNat)) = .int (Int32.ofInt x <<< (Int32.ofInt y &&& 31)) by rw [inR_shl hc.1 hc.2]; rfl] at h
  exact lv_ishl X.1 X.2.1 hd h
theorem aw_ishr (X : CX p s m args c cc nL own Ts Z) {x y : Int} (hc : inR x ∧ 0 ≤ y ∧ y < 32) (hd : decode cc pc = .ok (.ishr, 1)) (h : AW p l e R s m args below meth c nL Z Q (pc + 1) lc (.inl (x / 2 ^ y.toNat) :: st) M) : AW p l e R s m args below meth c nL Z Q pc lc (.inl y :: .inl x :: st) M := by
  intro H locs ls hl hP hS
  have h := h H locs ls hl hP hS
  rw [List.map_cons, show cvF Z (.inl (x / 2 ^ y.toNat)) = .int (Int32.ofInt x >>> (Int32.ofInt y &&& 31)) by rw [inR_shr hc.1 hc.2.1 hc.2.2]; rfl] at h
  exact lv_ishr X.1 X.2.1 hd h
theorem shu_cnt : ∀ n : Nat, n < 32 → (((Int32.ofNat n).toUInt32 &&& Int32.toUInt32 31).toBitVec % 32).toNat = n := by decide +kernel
theorem aw_iushr (X : CX p s m args c cc nL own Ts Z) {x y : Int} (hc : inR x ∧ 0 ≤ x ∧ 0 ≤ y ∧ y < 32) (hd : decode cc pc = .ok (.iushr, 1)) (h : AW p l e R s m args below meth c nL Z Q (pc + 1) lc (.inl (x / 2 ^ y.toNat) :: st) M) : AW p l e R s m args below meth c nL Z Q pc lc (.inl y :: .inl x :: st) M := by
  intro H locs ls hl hP hS
  refine lv_iushr X.1 X.2.1 hd (v := Int32.ofInt (x / 2 ^ y.toNat)) ?_ (h H locs ls hl hP hS)
  have e1 : Int32.ofInt x = nI x.toNat := sh_of hc.2.1
  rw [e1, sh_of hc.2.2.1, pk_ushrN (n := x.toNat) (by have := hc.1.2; omega) _ y.toNat (shu_cnt _ (by omega))]
  have e2 : (x / 2 ^ y.toNat) = ((x.toNat / 2 ^ y.toNat : Nat) : Int) := by
    rw [Int.natCast_ediv, Int.toNat_of_nonneg hc.2.1]
    simp
  rw [e2, Int32.ofInt_eq_ofNat]
  rfl
theorem aw_ineg (X : CX p s m args c cc nL own Ts Z) {x : Int} (hd : decode cc pc = .ok (.ineg, 1)) (h : AW p l e R s m args below meth c nL Z Q (pc + 1) lc (.inl (-x) :: st) M) : AW p l e R s m args below meth c nL Z Q pc lc (.inl x :: st) M := by
  intro H locs ls hl hP hS
  have h := h H locs ls hl hP hS
  rw [List.map_cons, show cvF Z (.inl (-x)) = .int (-Int32.ofInt x) by rw [← Int32.ofInt_neg]; rfl] at h
  exact lv_ineg X.1 X.2.1 hd h
theorem aw_ladd (X : CX p s m args c cc nL own Ts Z) {x y : Int} (hd : decode cc pc = .ok (.ladd, 1)) (h : AW p l e R s m args below meth c nL Z Q (pc + 1) lc (.inr (.inl (x + y)) :: st) M) : AW p l e R s m args below meth c nL Z Q pc lc (.inr (.inl y) :: .inr (.inl x) :: st) M := by
  intro H locs ls hl hP hS
  have h := h H locs ls hl hP hS
  rw [List.map_cons, show cvF Z (.inr (.inl (x + y))) = .long (Int64.ofInt x + Int64.ofInt y) by rw [← Int64.ofInt_add]; rfl] at h
  exact lv_ladd X.1 X.2.1 hd h
theorem aw_lsub (X : CX p s m args c cc nL own Ts Z) {x y : Int} (hd : decode cc pc = .ok (.lsub, 1)) (h : AW p l e R s m args below meth c nL Z Q (pc + 1) lc (.inr (.inl (x - y)) :: st) M) : AW p l e R s m args below meth c nL Z Q pc lc (.inr (.inl y) :: .inr (.inl x) :: st) M := by
  intro H locs ls hl hP hS
  have h := h H locs ls hl hP hS
  rw [List.map_cons, show cvF Z (.inr (.inl (x - y))) = .long (Int64.ofInt x - Int64.ofInt y) by rw [← Int64.ofInt_sub]; rfl] at h
  exact lv_lsub X.1 X.2.1 hd h
theorem aw_lmul (X : CX p s m args c cc nL own Ts Z) {x y : Int} (hd : decode cc pc = .ok (.lmul, 1)) (h : AW p l e R s m args below meth c nL Z Q (pc + 1) lc (.inr (.inl (x * y)) :: st) M) : AW p l e R s m args below meth c nL Z Q pc lc (.inr (.inl y) :: .inr (.inl x) :: st) M := by
  intro H locs ls hl hP hS
  have h := h H locs ls hl hP hS
  rw [List.map_cons, show cvF Z (.inr (.inl (x * y))) = .long (Int64.ofInt x * Int64.ofInt y) by rw [← Int64.ofInt_mul]; rfl] at h
  exact lv_lmul X.1 X.2.1 hd h
theorem aw_ldiv (X : CX p s m args c cc nL own Ts Z) {x y : Int} (hc : 0 ≤ x ∧ 0 < y ∧ inL x ∧ inL y) (hd : decode cc pc = .ok (.ldiv, 1)) (h : AW p l e R s m args below meth c nL Z Q (pc + 1) lc (.inr (.inl (x / y)) :: st) M) : AW p l e R s m args below meth c nL Z Q pc lc (.inr (.inl y) :: .inr (.inl x) :: st) M := by
  intro H locs ls hl hP hS
  have h := h H locs ls hl hP hS
  rw [List.map_cons, show cvF Z (.inr (.inl (x / y))) = .long (Int64.ofInt x / Int64.ofInt y) by rw [inL_div hc.2.2.1 hc.2.2.2 hc.1 hc.2.1]; rfl] at h
  exact lv_ldiv X.1 X.2.1 hd (nzL_of hc.2.2.2 hc.2.1) h
theorem aw_lrem (X : CX p s m args c cc nL own Ts Z) {x y : Int} (hc : 0 ≤ x ∧ 0 < y ∧ inL x ∧ inL y) (hd : decode cc pc = .ok (.lrem, 1)) (h : AW p l e R s m args below meth c nL Z Q (pc + 1) lc (.inr (.inl (x % y)) :: st) M) : AW p l e R s m args below meth c nL Z Q pc lc (.inr (.inl y) :: .inr (.inl x) :: st) M := by
  intro H locs ls hl hP hS
  have h := h H locs ls hl hP hS
  rw [List.map_cons, show cvF Z (.inr (.inl (x % y))) = .long (Int64.ofInt x - Int64.ofInt x / Int64.ofInt y * Int64.ofInt y) by rw [inL_rem hc.2.2.1 hc.2.2.2 hc.1 hc.2.1]; rfl] at h
  exact lv_lrem X.1 X.2.1 hd (nzL_of hc.2.2.2 hc.2.1) h
theorem aw_lneg (X : CX p s m args c cc nL own Ts Z) {x : Int} (hd : decode cc pc = .ok (.lneg, 1)) (h : AW p l e R s m args below meth c nL Z Q (pc + 1) lc (.inr (.inl (-x)) :: st) M) : AW p l e R s m args below meth c nL Z Q pc lc (.inr (.inl x) :: st) M := by
  intro H locs ls hl hP hS
  have h := h H locs ls hl hP hS
  rw [List.map_cons, show cvF Z (.inr (.inl (-x))) = .long (-Int64.ofInt x) by rw [← Int64.ofInt_neg]; rfl] at h
  exact lv_lneg X.1 X.2.1 hd h
theorem lc3_of {x y : Int} (hx : inL x) (hy : inL y) : lg_cmp (Int64.ofInt x) (Int64.ofInt y) = Int32.ofInt (lc3 x y) := by
  unfold lg_cmp lc3
  have e1 : (Int64.ofInt x > Int64.ofInt y) ↔ y < x := by
    show Int64.ofInt y < Int64.ofInt x ↔ _
    rw [Int64.lt_iff_toInt_lt, inL_to hx, inL_to hy]
  have e2 : Int64.ofInt x = Int64.ofInt y ↔ x = y := by rw [← Int64.toInt_inj, inL_to hx, inL_to hy]
  by_cases h1 : y < x
  · rw [if_pos (e1.mpr h1), if_pos h1]; rfl
  · rw [if_neg (fun h => h1 (e1.mp h)), if_neg h1]
    by_cases h2 : x = y
    · rw [if_pos (e2.mpr h2), if_pos h2]; rfl
    · rw [if_neg (fun h => h2 (e2.mp h)), if_neg h2]; rfl
theorem aw_lcmp (X : CX p s m args c cc nL own Ts Z) {x y : Int} (hc : inL x ∧ inL y) (hd : decode cc pc = .ok (.lcmp, 1)) (h : AW p l e R s m args below meth c nL Z Q (pc + 1) lc (.inl (lc3 x y) :: st) M) : AW p l e R s m args below meth c nL Z Q pc lc (.inr (.inl y) :: .inr (.inl x) :: st) M := by
  intro H locs ls hl hP hS
  have h := h H locs ls hl hP hS
  rw [List.map_cons, show cvF Z (.inl (lc3 x y)) = .int (lg_cmp (Int64.ofInt x) (Int64.ofInt y)) by rw [lc3_of hc.1 hc.2]; rfl] at h
  exact W.lcmp X.1 X.2.1 hd h
theorem aw_i2l (X : CX p s m args c cc nL own Ts Z) {x : Int} (hc : inR x) (hd : decode cc pc = .ok (.i2l, 1)) (h : AW p l e R s m args below meth c nL Z Q (pc + 1) lc (.inr (.inl x) :: st) M) : AW p l e R s m args below meth c nL Z Q pc lc (.inl x :: st) M := by
  intro H locs ls hl hP hS
  refine lv_i2l X.1 X.2.1 hd (v := Int64.ofInt x) ?_ (h H locs ls hl hP hS)
  rw [← Int64.toInt_inj, Int32.toInt_toInt64, inR_to hc, inL_to ⟨by have := hc.1; omega, by have := hc.2; omega⟩]
theorem aw_l2i (X : CX p s m args c cc nL own Ts Z) {x : Int} (hd : decode cc pc = .ok (.l2i, 1)) (h : AW p l e R s m args below meth c nL Z Q (pc + 1) lc (.inl x :: st) M) : AW p l e R s m args below meth c nL Z Q pc lc (.inr (.inl x) :: st) M := by
  intro H locs ls hl hP hS
  exact lv_l2i X.1 X.2.1 hd (v := Int32.ofInt x) Int64.toInt32_ofInt (h H locs ls hl hP hS)
theorem shl_cnt : ∀ n : Nat, n < 64 → (((Int32.ofNat n).toInt64 &&& 63).toBitVec.smod 64).toNat = n := by decide +kernel
theorem inL_shr {x y : Int} (hx : inL x) (h0 : 0 ≤ y) (h1 : y < 64) : Int64.ofInt x >>> ((Int32.ofInt y).toInt64 &&& 63) = Int64.ofInt (x / 2 ^ y.toNat) := by
  have hs : (((Int32.ofInt y).toInt64 &&& 63).toBitVec.smod 64).toNat = y.toNat := by rw [sh_of h0]; exact shl_cnt _ (by omega)
  have hp : (0 : Int) < 2 ^ y.toNat := Int.pow_pos (by omega)
  have h4 : inL (x / 2 ^ y.toNat) := by
    constructor
    · have : x / 2 ^ y.toNat ≥ x ∨ x / 2 ^ y.toNat ≥ 0 := by
        by_cases hn : 0 ≤ x
        · exact Or.inr (Int.ediv_nonneg hn (by omega))
        · left
          have := Int.le_ediv_of_mul_le hp (show x * 2 ^ y.toNat ≤ x from by
            have h9 : (1 : Int) ≤ 2 ^ y.toNat := hp
            have := Int.mul_le_mul_of_nonpos_left (show x ≤ 0 by omega) h9
            omega)
          exact this
      have := hx.1
      omega
    · have : x / 2 ^ y.toNat ≤ x ∨ x / 2 ^ y.toNat < 1 := by
        by_cases hn : 0 ≤ x
        · exact Or.inl (Int.ediv_le_self _ hn)
        · right
          have := Int.ediv_neg_of_neg_of_pos (show x < 0 by omega) hp
          omega
      have := hx.2
      omega
  rw [← Int64.toInt_inj, inL_to h4]
  show (BitVec.sshiftRight _ _).toInt = _
  rw [BitVec.toInt_sshiftRight, hs]
  show (Int64.ofInt x).toInt >>> y.toNat = _
  rw [inL_to hx, Int.shiftRight_eq_div_pow]
  simp
theorem aw_lshr (X : CX p s m args c cc nL own Ts Z) {x y : Int} (hc : inL x ∧ 0 ≤ y ∧ y < 64) (hd : decode cc pc = .ok (.lshr, 1)) (h : AW p l e R s m args below meth c nL Z Q (pc + 1) lc (.inr (.inl (x / 2 ^ y.toNat)) :: st) M) : AW p l e R s m args below meth c nL Z Q pc lc (.inl y :: .inr (.inl x) :: st) M := by
  intro H locs ls hl hP hS
  exact lv_lshr X.1 X.2.1 hd (v := Int64.ofInt (x / 2 ^ y.toNat)) (inL_shr hc.1 hc.2.1 hc.2.2) (h H locs ls hl hP hS)
theorem aw_dup (X : CX p s m args c cc nL own Ts Z) {v : AV} (hv : isLng (some v) = false) (hd : decode cc pc = .ok (.dup, 1)) (h : AW p l e R s m args below meth c nL Z Q (pc + 1) lc (v :: v :: st) M) : AW p l e R s m args below meth c nL Z Q pc lc (v :: st) M := by
  intro H locs ls hl hP hS
  exact lv_dup X.1 X.2.1 hd (cvF_cat hv) (h H locs ls hl hP hS)
theorem aw_pop (X : CX p s m args c cc nL own Ts Z) {v : AV} (hv : isLng (some v) = false) (hd : decode cc pc = .ok (.pop, 1)) (h : AW p l e R s m args below meth c nL Z Q (pc + 1) lc st M) : AW p l e R s m args below meth c nL Z Q pc lc (v :: st) M := by
  intro H locs ls hl hP hS
  exact lv_pop X.1 X.2.1 hd (cvF_cat hv) (h H locs ls hl hP hS)
theorem aw_dup2 (X : CX p s m args c cc nL own Ts Z) {v w : AV} (hv : isLng (some v) = false) (hw : isLng (some w) = false) (hd : decode cc pc = .ok (.dup2, 1)) (h : AW p l e R s m args below meth c nL Z Q (pc + 1) lc (v :: w :: v :: w :: st) M) : AW p l e R s m args below meth c nL Z Q pc lc (v :: w :: st) M := by
  intro H locs ls hl hP hS
  exact lv_dup2_11 X.1 X.2.1 hd (cvF_cat hv) (cvF_cat hw) (h H locs ls hl hP hS)
theorem aw_goto (X : CX p s m args c cc nL own Ts Z) {o : Int} {t : Nat} (ht : (pc : Int) + o = (t : Int)) (hd : decode cc pc = .ok (.goto o, 3)) (h : AW p l e R s m args below meth c nL Z Q t lc st M) : AW p l e R s m args below meth c nL Z Q pc lc st M := by
  intro H locs ls hl hP hS
  exact lv_goto X.1 X.2.1 hd ht (h H locs ls hl hP hS)
theorem aw_if (X : CX p s m args c cc nL own Ts Z) {k : ClassFile.Cond} {o : Int} {t : Nat} {x : Int} (ht : (pc : Int) + o = (t : Int)) (hd : decode cc pc = .ok (.ifCond k o, 3)) (h : s_br k x 0 (AW p l e R s m args below meth c nL Z Q t lc st M) (AW p l e R s m args below meth c nL Z Q (pc + 3) lc st M)) : AW p l e R s m args below meth c nL Z Q pc lc (.inl x :: st) M := by
  intro H locs ls hl hP hS
  cases k with
  | eq => exact lv_if_eq X.1 X.2.1 hd ht (fun q => h.2.1 ((inR_inj h.1.1 inR_0).mp q) H locs ls hl hP hS) (fun q => h.2.2 (fun q2 => q ((inR_inj h.1.1 inR_0).mpr q2)) H locs ls hl hP hS)
  | ne => exact lv_if_ne X.1 X.2.1 hd ht (fun q => h.2.1 (fun q2 => q ((inR_inj h.1.1 inR_0).mpr q2)) H locs ls hl hP hS) (fun q => h.2.2 ((inR_inj h.1.1 inR_0).mp q) H locs ls hl hP hS)
  | lt => exact lv_if_lt X.1 X.2.1 hd ht (fun q => h.2.1 ((inR_lt h.1.1 inR_0).mp q) H locs ls hl hP hS) (fun q => h.2.2 (Int.not_lt.mp (fun q2 => q ((inR_lt h.1.1 inR_0).mpr q2))) H locs ls hl hP hS)
  | ge => exact lv_if_ge X.1 X.2.1 hd ht (fun q => h.2.1 ((inR_le inR_0 h.1.1).mp q) H locs ls hl hP hS) (fun q => h.2.2 (Int.not_le.mp (fun q2 => q ((inR_le inR_0 h.1.1).mpr q2))) H locs ls hl hP hS)
  | gt => exact lv_if_gt X.1 X.2.1 hd ht (fun q => h.2.1 ((inR_lt inR_0 h.1.1).mp q) H locs ls hl hP hS) (fun q => h.2.2 (Int.not_lt.mp (fun q2 => q ((inR_lt inR_0 h.1.1).mpr q2))) H locs ls hl hP hS)
  | le => exact lv_if_le X.1 X.2.1 hd ht (fun q => h.2.1 ((inR_le h.1.1 inR_0).mp q) H locs ls hl hP hS) (fun q => h.2.2 (Int.not_le.mp (fun q2 => q ((inR_le h.1.1 inR_0).mpr q2))) H locs ls hl hP hS)
theorem aw_icmp (X : CX p s m args c cc nL own Ts Z) {k : ClassFile.Cond} {o : Int} {t : Nat} {x y : Int} (ht : (pc : Int) + o = (t : Int)) (hd : decode cc pc = .ok (.if_icmp k o, 3)) (h : s_br k x y (AW p l e R s m args below meth c nL Z Q t lc st M) (AW p l e R s m args below meth c nL Z Q (pc + 3) lc st M)) : AW p l e R s m args below meth c nL Z Q pc lc (.inl y :: .inl x :: st) M := by
  intro H locs ls hl hP hS
  cases k with
  | eq => exact lv_icmp_eq X.1 X.2.1 hd ht (fun q => h.2.1 ((inR_inj h.1.1 h.1.2).mp q) H locs ls hl hP hS) (fun q => h.2.2 (fun q2 => q ((inR_inj h.1.1 h.1.2).mpr q2)) H locs ls hl hP hS)
  | ne => exact lv_icmp_ne X.1 X.2.1 hd ht (fun q => h.2.1 (fun q2 => q ((inR_inj h.1.1 h.1.2).mpr q2)) H locs ls hl hP hS) (fun q => h.2.2 ((inR_inj h.1.1 h.1.2).mp q) H locs ls hl hP hS)
  | lt => exact lv_icmp_lt X.1 X.2.1 hd ht (fun q => h.2.1 ((inR_lt h.1.1 h.1.2).mp q) H locs ls hl hP hS) (fun q => h.2.2 (Int.not_lt.mp (fun q2 => q ((inR_lt h.1.1 h.1.2).mpr q2))) H locs ls hl hP hS)
  | ge => exact lv_icmp_ge X.1 X.2.1 hd ht (fun q => h.2.1 ((inR_le h.1.2 h.1.1).mp q) H locs ls hl hP hS) (fun q => h.2.2 (Int.not_le.mp (fun q2 => q ((inR_le h.1.2 h.1.1).mpr q2))) H locs ls hl hP hS)
  | gt => exact lv_icmp_gt X.1 X.2.1 hd ht (fun q => h.2.1 ((inR_lt h.1.2 h.1.1).mp q) H locs ls hl hP hS) (fun q => h.2.2 (Int.not_lt.mp (fun q2 => q ((inR_lt h.1.2 h.1.1).mpr q2))) H locs ls hl hP hS)
  | le => exact lv_icmp_le X.1 X.2.1 hd ht (fun q => h.2.1 ((inR_le h.1.1 h.1.2).mp q) H locs ls hl hP hS) (fun q => h.2.2 (Int.not_le.mp (fun q2 => q ((inR_le h.1.1 h.1.2).mpr q2))) H locs ls hl hP hS)
end SND
