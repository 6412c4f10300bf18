/-! ===== the first state: printed by gen_start.py ===== -/
def PLm : List Nat := [0, 1, 2, 3, 4, 5, 6, 7, 8, 9, 10, 11, 12, 13, 14, 15, 16, 17, 18, 19, 20, 44, 45, 46, 47, 48, 49, 26, 27, 28, 29, 30, 31, 32, 33, 34, 35, 36, 37, 21, 22, 23, 24, 25, 38, 39, 40, 41, 43, 42, 50, 51, 52, 53, 54, 55, 56, 57, 58, 59, 60, 61, 62, 63, 64, 65, 66]
def adT (q1 : Nat) (a1 : Nat → Nat) (q2 : Nat) (a2 : Nat → Nat) (b : Nat) : List Nat := [q1, a1 0, a1 1, a1 2, a1 3, a1 4, a1 5, a1 6, a1 7, a1 8, a1 9, a1 10, a1 11, a1 12, a1 13, a1 14, a1 15, a1 16, a1 17, a1 18, a1 19, a1 43, a1 44, a1 45, a1 46, a1 47, a1 48, a1 25, a1 26, a1 27, a1 28, a1 29, a1 30, a1 31, a1 32, a1 33, a1 34, a1 35, a1 36, a1 20, a1 21, a1 22, a1 23, a1 24, a1 37, a1 38, a1 39, a1 40, a1 42, a1 41, q2, a2 0, a2 1, a2 2, a2 3, a2 4, a2 5, a2 6, a2 7, a2 8, a2 9, a2 10, a2 11, a2 12, a2 13, a2 14, a2 15, b]
def wsE (cI cB : ClassId) (x1 x2 x3 : Int32) (q1 : Nat) (a1 : Nat → Nat) (q2 : Nat) (a2 : Nat → Nat) : va_W := [(q1, .inr (7, [.ref (a1 0), .ref (a1 5), .ref (a1 20), .ref (a1 22), .ref (a1 24), .ref (a1 40), .ref (a1 43), .ref (a1 45), .ref (a1 47), .int (Int32.ofInt (-1))])), (a1 0, .inr (1, [.int (Int32.ofNat (nrN x1 1 24)), .ref (a1 1), .ref (a1 2), .ref (a1 3), .ref (a1 4), .int 0, .int 0])), (a1 1, aI cI (nrN x2 16 800)), (a1 2, aI cI (nrN x1 1 24 + 5)), (a1 3, aI cI (nrN x1 1 24 + 5)), (a1 4, aI cI (nrN x1 1 24)), (a1 5, .inr (0, [.ref (a1 6), .ref (a1 8), .ref (a1 10), .ref (a1 12), .ref (a1 14), .ref (a1 16), .ref (a1 18)])), (a1 6, .inr (5, [.ref (a1 7), .int 0])), (a1 7, aI cI 130), (a1 8, .inr (5, [.ref (a1 9), .int 0])), (a1 9, aI cI 130), (a1 10, .inr (5, [.ref (a1 11), .int 0])), (a1 11, aI cI 130), (a1 12, .inr (5, [.ref (a1 13), .int 0])), (a1 13, aI cI 130), (a1 14, .inr (5, [.ref (a1 15), .int 0])), (a1 15, aI cI 130), (a1 16, .inr (5, [.ref (a1 17), .int 0])), (a1 17, aI cI 130), (a1 18, .inr (5, [.ref (a1 19), .int 0])), (a1 19, aI cI 130), (a1 20, .inr (6, [.ref (a1 21), .int 0])), (a1 21, aI cI 1000), (a1 22, .inr (3, [.ref (a1 23), .int 0])), (a1 23, aI cI 960), (a1 24, .inr (2, [.ref (a1 37), .int 0, .ref (a1 38), .ref (a1 39), .int 0, .ref (a1 25), .ref (a1 27), .ref (a1 29), .ref (a1 31), .ref (a1 33), .ref (a1 35)])), (a1 25, .inr (5, [.ref (a1 26), .int 0])), (a1 26, aI cI 130), (a1 27, .inr (5, [.ref (a1 28), .int 0])), (a1 28, aI cI 130), (a1 29, .inr (5, [.ref (a1 30), .int 0])), (a1 30, aI cI 130), (a1 31, .inr (5, [.ref (a1 32), .int 0])), (a1 32, aI cI 130), (a1 33, .inr (5, [.ref (a1 34), .int 0])), (a1 34, aI cI 130), (a1 35, .inr (5, [.ref (a1 36), .int 0])), (a1 36, aI cI 130), (a1 37, aI cI (nrN x3 8 400)), (a1 38, aI cI (nrN x3 8 400)), (a1 39, aI cI (nrN x3 8 400)), (a1 40, .inr (4, [.ref (a1 42), .int 0, .ref (a1 41)])), (a1 41, aI cI 108), (a1 42, aI cI (nrN x3 8 400)), (a1 43, .inr (5, [.ref (a1 44), .int 0])), (a1 44, aI cI 130), (a1 45, .inr (5, [.ref (a1 46), .int 0])), (a1 46, aI cI 130), (a1 47, .inr (5, [.ref (a1 48), .int 0])), (a1 48, aI cI 130), (q2, .inr (8, [.int (Int32.ofNat (nrN x1 1 24)), .int (Int32.ofNat (nrN x2 16 800)), .int (Int32.ofNat (nrN x3 8 400)), .ref (a2 0), .ref (a2 1), .ref (a2 2), .ref (a2 3), .ref (a2 4), .ref (a2 5), .ref (a2 6), .int 0, .int 0, .ref (a2 7), .ref (a2 8), .int 0, .int 0, .int (Int32.ofInt (-1)), .ref (a2 9), .int 0, .int 0, .int 0, .ref (a2 10), .ref (a2 11), .ref (a2 12), .ref (a2 13), .ref (a2 14), .ref (a2 15), .int 0, .int 0])), (a2 0, aI cI 15540), (a2 1, aI cI 37), (a2 2, aI cB 24), (a2 3, aI cI 24), (a2 4, aI cI 24), (a2 5, aI cI 8), (a2 6, aI cI 8), (a2 7, aI cI 1000), (a2 8, aI cI 970), (a2 9, aI cI 400), (a2 10, aI cI 220), (a2 11, aI cI 220), (a2 12, aI cI 220), (a2 13, aI cI 220), (a2 14, aI cI 220), (a2 15, aI cI 4000)]
set_option maxRecDepth 20000 in
theorem ws_eq {cI cB : ClassId} {x1 x2 x3 : Int32} {q1 : Nat} {a1 : Nat → Nat} {q2 : Nat} {a2 : Nat → Nat} : w_X7 cI cB x1 x2 x3 q1 a1 ++ w_X8 cI cB x1 x2 x3 q2 a2 = wsE cI cB x1 x2 x3 q1 a1 q2 a2 := by
  simp only [w_X7, w_X8, w_X1, w_X0, w_X5, w_X6, w_X3, w_X2, w_X4, List.cons_append, List.nil_append, List.append_assoc, wsE]
def M0 (n : Nn) : Mem := fun o k => cond (Nat.beq o 50) (cond (Nat.beq k 0) (n.1 : Int) (cond (Nat.beq k 1) (n.2.1 : Int) (cond (Nat.beq k 2) (n.2.2 : Int) (cond (Nat.beq k 16) (-1) 0)))) (cond (Nat.beq o 1) (cond (Nat.beq k 0) (n.1 : Int) 0) (cond (Nat.beq o 0) (cond (Nat.beq k 9) (-1) 0) 0))
def nnT (x1 x2 x3 : Int32) : Nn := (nrN x1 1 24, nrN x2 16 800, nrN x3 8 400)
def Z0 (D : va_G) (cI cB : ClassId) (x1 x2 x3 : Int32) (q1 : Nat) (a1 : Nat → Nat) (q2 : Nat) (a2 : Nat → Nat) (b sz : Nat) : ZT := (D, cI, cB, (fun i => (adT q1 a1 q2 a2 b).getD i 0), sz, nnT x1 x2 x3)
section FIRST
variable {D : va_G} {cI cB : ClassId} {x1 x2 x3 : Int32} {q1 : Nat} {a1 : Nat → Nat} {q2 : Nat} {a2 : Nat → Nat} {b sz : Nat}
theorem hw_0 : (wsE cI cB x1 x2 x3 q1 a1 q2 a2)[0]? = some (zA (Z0 D cI cB x1 x2 x3 q1 a1 q2 a2 b sz) 0, cellF (Z0 D cI cB x1 x2 x3 q1 a1 q2 a2 b sz) (M0 (nnT x1 x2 x3)) 0) := rfl
theorem hw_1 : (wsE cI cB x1 x2 x3 q1 a1 q2 a2)[1]? = some (zA (Z0 D cI cB x1 x2 x3 q1 a1 q2 a2 b sz) 1, cellF (Z0 D cI cB x1 x2 x3 q1 a1 q2 a2 b sz) (M0 (nnT x1 x2 x3)) 1) := by
  have e1 : ∀ k : Nat, Int32.ofInt (k : Int) = Int32.ofNat k := fun k => Int32.ofInt_eq_ofNat
  show _ = some (_, (.inr (1, [.int (Int32.ofInt (nrN x1 1 24 : Int)), .ref (a1 1), .ref (a1 2), .ref (a1 3), .ref (a1 4), .int 0, .int 0]) : va_E))
  rw [e1]
  rfl
theorem hw_2 : (wsE cI cB x1 x2 x3 q1 a1 q2 a2)[2]? = some (zA (Z0 D cI cB x1 x2 x3 q1 a1 q2 a2 b sz) 2, cellF (Z0 D cI cB x1 x2 x3 q1 a1 q2 a2 b sz) (M0 (nnT x1 x2 x3)) 2) := rfl
theorem hw_3 : (wsE cI cB x1 x2 x3 q1 a1 q2 a2)[3]? = some (zA (Z0 D cI cB x1 x2 x3 q1 a1 q2 a2 b sz) 3, cellF (Z0 D cI cB x1 x2 x3 q1 a1 q2 a2 b sz) (M0 (nnT x1 x2 x3)) 3) := rfl
theorem hw_4 : (wsE cI cB x1 x2 x3 q1 a1 q2 a2)[4]? = some (zA (Z0 D cI cB x1 x2 x3 q1 a1 q2 a2 b sz) 4, cellF (Z0 D cI cB x1 x2 x3 q1 a1 q2 a2 b sz) (M0 (nnT x1 x2 x3)) 4) := rfl
theorem hw_5 : (wsE cI cB x1 x2 x3 q1 a1 q2 a2)[5]? = some (zA (Z0 D cI cB x1 x2 x3 q1 a1 q2 a2 b sz) 5, cellF (Z0 D cI cB x1 x2 x3 q1 a1 q2 a2 b sz) (M0 (nnT x1 x2 x3)) 5) := rfl
theorem hw_6 : (wsE cI cB x1 x2 x3 q1 a1 q2 a2)[6]? = some (zA (Z0 D cI cB x1 x2 x3 q1 a1 q2 a2 b sz) 6, cellF (Z0 D cI cB x1 x2 x3 q1 a1 q2 a2 b sz) (M0 (nnT x1 x2 x3)) 6) := rfl
theorem hw_7 : (wsE cI cB x1 x2 x3 q1 a1 q2 a2)[7]? = some (zA (Z0 D cI cB x1 x2 x3 q1 a1 q2 a2 b sz) 7, cellF (Z0 D cI cB x1 x2 x3 q1 a1 q2 a2 b sz) (M0 (nnT x1 x2 x3)) 7) := rfl
theorem hw_8 : (wsE cI cB x1 x2 x3 q1 a1 q2 a2)[8]? = some (zA (Z0 D cI cB x1 x2 x3 q1 a1 q2 a2 b sz) 8, cellF (Z0 D cI cB x1 x2 x3 q1 a1 q2 a2 b sz) (M0 (nnT x1 x2 x3)) 8) := rfl
theorem hw_9 : (wsE cI cB x1 x2 x3 q1 a1 q2 a2)[9]? = some (zA (Z0 D cI cB x1 x2 x3 q1 a1 q2 a2 b sz) 9, cellF (Z0 D cI cB x1 x2 x3 q1 a1 q2 a2 b sz) (M0 (nnT x1 x2 x3)) 9) := rfl
theorem hw_10 : (wsE cI cB x1 x2 x3 q1 a1 q2 a2)[10]? = some (zA (Z0 D cI cB x1 x2 x3 q1 a1 q2 a2 b sz) 10, cellF (Z0 D cI cB x1 x2 x3 q1 a1 q2 a2 b sz) (M0 (nnT x1 x2 x3)) 10) := rfl
theorem hw_11 : (wsE cI cB x1 x2 x3 q1 a1 q2 a2)[11]? = some (zA (Z0 D cI cB x1 x2 x3 q1 a1 q2 a2 b sz) 11, cellF (Z0 D cI cB x1 x2 x3 q1 a1 q2 a2 b sz) (M0 (nnT x1 x2 x3)) 11) := rfl
theorem hw_12 : (wsE cI cB x1 x2 x3 q1 a1 q2 a2)[12]? = some (zA (Z0 D cI cB x1 x2 x3 q1 a1 q2 a2 b sz) 12, cellF (Z0 D cI cB x1 x2 x3 q1 a1 q2 a2 b sz) (M0 (nnT x1 x2 x3)) 12) := rfl
theorem hw_13 : (wsE cI cB x1 x2 x3 q1 a1 q2 a2)[13]? = some (zA (Z0 D cI cB x1 x2 x3 q1 a1 q2 a2 b sz) 13, cellF (Z0 D cI cB x1 x2 x3 q1 a1 q2 a2 b sz) (M0 (nnT x1 x2 x3)) 13) := rfl
theorem hw_14 : (wsE cI cB x1 x2 x3 q1 a1 q2 a2)[14]? = some (zA (Z0 D cI cB x1 x2 x3 q1 a1 q2 a2 b sz) 14, cellF (Z0 D cI cB x1 x2 x3 q1 a1 q2 a2 b sz) (M0 (nnT x1 x2 x3)) 14) := rfl
theorem hw_15 : (wsE cI cB x1 x2 x3 q1 a1 q2 a2)[15]? = some (zA (Z0 D cI cB x1 x2 x3 q1 a1 q2 a2 b sz) 15, cellF (Z0 D cI cB x1 x2 x3 q1 a1 q2 a2 b sz) (M0 (nnT x1 x2 x3)) 15) := rfl
theorem hw_16 : (wsE cI cB x1 x2 x3 q1 a1 q2 a2)[16]? = some (zA (Z0 D cI cB x1 x2 x3 q1 a1 q2 a2 b sz) 16, cellF (Z0 D cI cB x1 x2 x3 q1 a1 q2 a2 b sz) (M0 (nnT x1 x2 x3)) 16) := rfl
theorem hw_17 : (wsE cI cB x1 x2 x3 q1 a1 q2 a2)[17]? = some (zA (Z0 D cI cB x1 x2 x3 q1 a1 q2 a2 b sz) 17, cellF (Z0 D cI cB x1 x2 x3 q1 a1 q2 a2 b sz) (M0 (nnT x1 x2 x3)) 17) := rfl
theorem hw_18 : (wsE cI cB x1 x2 x3 q1 a1 q2 a2)[18]? = some (zA (Z0 D cI cB x1 x2 x3 q1 a1 q2 a2 b sz) 18, cellF (Z0 D cI cB x1 x2 x3 q1 a1 q2 a2 b sz) (M0 (nnT x1 x2 x3)) 18) := rfl
theorem hw_19 : (wsE cI cB x1 x2 x3 q1 a1 q2 a2)[19]? = some (zA (Z0 D cI cB x1 x2 x3 q1 a1 q2 a2 b sz) 19, cellF (Z0 D cI cB x1 x2 x3 q1 a1 q2 a2 b sz) (M0 (nnT x1 x2 x3)) 19) := rfl
theorem hw_20 : (wsE cI cB x1 x2 x3 q1 a1 q2 a2)[20]? = some (zA (Z0 D cI cB x1 x2 x3 q1 a1 q2 a2 b sz) 20, cellF (Z0 D cI cB x1 x2 x3 q1 a1 q2 a2 b sz) (M0 (nnT x1 x2 x3)) 20) := rfl
theorem hw_21 : (wsE cI cB x1 x2 x3 q1 a1 q2 a2)[44]? = some (zA (Z0 D cI cB x1 x2 x3 q1 a1 q2 a2 b sz) 21, cellF (Z0 D cI cB x1 x2 x3 q1 a1 q2 a2 b sz) (M0 (nnT x1 x2 x3)) 21) := rfl
theorem hw_22 : (wsE cI cB x1 x2 x3 q1 a1 q2 a2)[45]? = some (zA (Z0 D cI cB x1 x2 x3 q1 a1 q2 a2 b sz) 22, cellF (Z0 D cI cB x1 x2 x3 q1 a1 q2 a2 b sz) (M0 (nnT x1 x2 x3)) 22) := rfl
theorem hw_23 : (wsE cI cB x1 x2 x3 q1 a1 q2 a2)[46]? = some (zA (Z0 D cI cB x1 x2 x3 q1 a1 q2 a2 b sz) 23, cellF (Z0 D cI cB x1 x2 x3 q1 a1 q2 a2 b sz) (M0 (nnT x1 x2 x3)) 23) := rfl
theorem hw_24 : (wsE cI cB x1 x2 x3 q1 a1 q2 a2)[47]? = some (zA (Z0 D cI cB x1 x2 x3 q1 a1 q2 a2 b sz) 24, cellF (Z0 D cI cB x1 x2 x3 q1 a1 q2 a2 b sz) (M0 (nnT x1 x2 x3)) 24) := rfl
theorem hw_25 : (wsE cI cB x1 x2 x3 q1 a1 q2 a2)[48]? = some (zA (Z0 D cI cB x1 x2 x3 q1 a1 q2 a2 b sz) 25, cellF (Z0 D cI cB x1 x2 x3 q1 a1 q2 a2 b sz) (M0 (nnT x1 x2 x3)) 25) := rfl
theorem hw_26 : (wsE cI cB x1 x2 x3 q1 a1 q2 a2)[49]? = some (zA (Z0 D cI cB x1 x2 x3 q1 a1 q2 a2 b sz) 26, cellF (Z0 D cI cB x1 x2 x3 q1 a1 q2 a2 b sz) (M0 (nnT x1 x2 x3)) 26) := rfl
theorem hw_27 : (wsE cI cB x1 x2 x3 q1 a1 q2 a2)[26]? = some (zA (Z0 D cI cB x1 x2 x3 q1 a1 q2 a2 b sz) 27, cellF (Z0 D cI cB x1 x2 x3 q1 a1 q2 a2 b sz) (M0 (nnT x1 x2 x3)) 27) := rfl
theorem hw_28 : (wsE cI cB x1 x2 x3 q1 a1 q2 a2)[27]? = some (zA (Z0 D cI cB x1 x2 x3 q1 a1 q2 a2 b sz) 28, cellF (Z0 D cI cB x1 x2 x3 q1 a1 q2 a2 b sz) (M0 (nnT x1 x2 x3)) 28) := rfl
theorem hw_29 : (wsE cI cB x1 x2 x3 q1 a1 q2 a2)[28]? = some (zA (Z0 D cI cB x1 x2 x3 q1 a1 q2 a2 b sz) 29, cellF (Z0 D cI cB x1 x2 x3 q1 a1 q2 a2 b sz) (M0 (nnT x1 x2 x3)) 29) := rfl
theorem hw_30 : (wsE cI cB x1 x2 x3 q1 a1 q2 a2)[29]? = some (zA (Z0 D cI cB x1 x2 x3 q1 a1 q2 a2 b sz) 30, cellF (Z0 D cI cB x1 x2 x3 q1 a1 q2 a2 b sz) (M0 (nnT x1 x2 x3)) 30) := rfl
theorem hw_31 : (wsE cI cB x1 x2 x3 q1 a1 q2 a2)[30]? = some (zA (Z0 D cI cB x1 x2 x3 q1 a1 q2 a2 b sz) 31, cellF (Z0 D cI cB x1 x2 x3 q1 a1 q2 a2 b sz) (M0 (nnT x1 x2 x3)) 31) := rfl
theorem hw_32 : (wsE cI cB x1 x2 x3 q1 a1 q2 a2)[31]? = some (zA (Z0 D cI cB x1 x2 x3 q1 a1 q2 a2 b sz) 32, cellF (Z0 D cI cB x1 x2 x3 q1 a1 q2 a2 b sz) (M0 (nnT x1 x2 x3)) 32) := rfl
theorem hw_33 : (wsE cI cB x1 x2 x3 q1 a1 q2 a2)[32]? = some (zA (Z0 D cI cB x1 x2 x3 q1 a1 q2 a2 b sz) 33, cellF (Z0 D cI cB x1 x2 x3 q1 a1 q2 a2 b sz) (M0 (nnT x1 x2 x3)) 33) := rfl
theorem hw_34 : (wsE cI cB x1 x2 x3 q1 a1 q2 a2)[33]? = some (zA (Z0 D cI cB x1 x2 x3 q1 a1 q2 a2 b sz) 34, cellF (Z0 D cI cB x1 x2 x3 q1 a1 q2 a2 b sz) (M0 (nnT x1 x2 x3)) 34) := rfl
theorem hw_35 : (wsE cI cB x1 x2 x3 q1 a1 q2 a2)[34]? = some (zA (Z0 D cI cB x1 x2 x3 q1 a1 q2 a2 b sz) 35, cellF (Z0 D cI cB x1 x2 x3 q1 a1 q2 a2 b sz) (M0 (nnT x1 x2 x3)) 35) := rfl
theorem hw_36 : (wsE cI cB x1 x2 x3 q1 a1 q2 a2)[35]? = some (zA (Z0 D cI cB x1 x2 x3 q1 a1 q2 a2 b sz) 36, cellF (Z0 D cI cB x1 x2 x3 q1 a1 q2 a2 b sz) (M0 (nnT x1 x2 x3)) 36) := rfl
theorem hw_37 : (wsE cI cB x1 x2 x3 q1 a1 q2 a2)[36]? = some (zA (Z0 D cI cB x1 x2 x3 q1 a1 q2 a2 b sz) 37, cellF (Z0 D cI cB x1 x2 x3 q1 a1 q2 a2 b sz) (M0 (nnT x1 x2 x3)) 37) := rfl
theorem hw_38 : (wsE cI cB x1 x2 x3 q1 a1 q2 a2)[37]? = some (zA (Z0 D cI cB x1 x2 x3 q1 a1 q2 a2 b sz) 38, cellF (Z0 D cI cB x1 x2 x3 q1 a1 q2 a2 b sz) (M0 (nnT x1 x2 x3)) 38) := rfl
theorem hw_39 : (wsE cI cB x1 x2 x3 q1 a1 q2 a2)[21]? = some (zA (Z0 D cI cB x1 x2 x3 q1 a1 q2 a2 b sz) 39, cellF (Z0 D cI cB x1 x2 x3 q1 a1 q2 a2 b sz) (M0 (nnT x1 x2 x3)) 39) := rfl
theorem hw_40 : (wsE cI cB x1 x2 x3 q1 a1 q2 a2)[22]? = some (zA (Z0 D cI cB x1 x2 x3 q1 a1 q2 a2 b sz) 40, cellF (Z0 D cI cB x1 x2 x3 q1 a1 q2 a2 b sz) (M0 (nnT x1 x2 x3)) 40) := rfl
theorem hw_41 : (wsE cI cB x1 x2 x3 q1 a1 q2 a2)[23]? = some (zA (Z0 D cI cB x1 x2 x3 q1 a1 q2 a2 b sz) 41, cellF (Z0 D cI cB x1 x2 x3 q1 a1 q2 a2 b sz) (M0 (nnT x1 x2 x3)) 41) := rfl
theorem hw_42 : (wsE cI cB x1 x2 x3 q1 a1 q2 a2)[24]? = some (zA (Z0 D cI cB x1 x2 x3 q1 a1 q2 a2 b sz) 42, cellF (Z0 D cI cB x1 x2 x3 q1 a1 q2 a2 b sz) (M0 (nnT x1 x2 x3)) 42) := rfl
theorem hw_43 : (wsE cI cB x1 x2 x3 q1 a1 q2 a2)[25]? = some (zA (Z0 D cI cB x1 x2 x3 q1 a1 q2 a2 b sz) 43, cellF (Z0 D cI cB x1 x2 x3 q1 a1 q2 a2 b sz) (M0 (nnT x1 x2 x3)) 43) := rfl
theorem hw_44 : (wsE cI cB x1 x2 x3 q1 a1 q2 a2)[38]? = some (zA (Z0 D cI cB x1 x2 x3 q1 a1 q2 a2 b sz) 44, cellF (Z0 D cI cB x1 x2 x3 q1 a1 q2 a2 b sz) (M0 (nnT x1 x2 x3)) 44) := rfl
theorem hw_45 : (wsE cI cB x1 x2 x3 q1 a1 q2 a2)[39]? = some (zA (Z0 D cI cB x1 x2 x3 q1 a1 q2 a2 b sz) 45, cellF (Z0 D cI cB x1 x2 x3 q1 a1 q2 a2 b sz) (M0 (nnT x1 x2 x3)) 45) := rfl
theorem hw_46 : (wsE cI cB x1 x2 x3 q1 a1 q2 a2)[40]? = some (zA (Z0 D cI cB x1 x2 x3 q1 a1 q2 a2 b sz) 46, cellF (Z0 D cI cB x1 x2 x3 q1 a1 q2 a2 b sz) (M0 (nnT x1 x2 x3)) 46) := rfl
theorem hw_47 : (wsE cI cB x1 x2 x3 q1 a1 q2 a2)[41]? = some (zA (Z0 D cI cB x1 x2 x3 q1 a1 q2 a2 b sz) 47, cellF (Z0 D cI cB x1 x2 x3 q1 a1 q2 a2 b sz) (M0 (nnT x1 x2 x3)) 47) := rfl
theorem hw_48 : (wsE cI cB x1 x2 x3 q1 a1 q2 a2)[43]? = some (zA (Z0 D cI cB x1 x2 x3 q1 a1 q2 a2 b sz) 48, cellF (Z0 D cI cB x1 x2 x3 q1 a1 q2 a2 b sz) (M0 (nnT x1 x2 x3)) 48) := rfl
theorem hw_49 : (wsE cI cB x1 x2 x3 q1 a1 q2 a2)[42]? = some (zA (Z0 D cI cB x1 x2 x3 q1 a1 q2 a2 b sz) 49, cellF (Z0 D cI cB x1 x2 x3 q1 a1 q2 a2 b sz) (M0 (nnT x1 x2 x3)) 49) := rfl
theorem hw_50 : (wsE cI cB x1 x2 x3 q1 a1 q2 a2)[50]? = some (zA (Z0 D cI cB x1 x2 x3 q1 a1 q2 a2 b sz) 50, cellF (Z0 D cI cB x1 x2 x3 q1 a1 q2 a2 b sz) (M0 (nnT x1 x2 x3)) 50) := by
  have e1 : ∀ k : Nat, Int32.ofInt (k : Int) = Int32.ofNat k := fun k => Int32.ofInt_eq_ofNat
  show _ = some (_, (.inr (8, [.int (Int32.ofInt (nrN x1 1 24 : Int)), .int (Int32.ofInt (nrN x2 16 800 : Int)), .int (Int32.ofInt (nrN x3 8 400 : Int)), .ref (a2 0), .ref (a2 1), .ref (a2 2), .ref (a2 3), .ref (a2 4), .ref (a2 5), .ref (a2 6), .int 0, .int 0, .ref (a2 7), .ref (a2 8), .int 0, .int 0, .int (Int32.ofInt (-1)), .ref (a2 9), .int 0, .int 0, .int 0, .ref (a2 10), .ref (a2 11), .ref (a2 12), .ref (a2 13), .ref (a2 14), .ref (a2 15), .int 0, .int 0]) : va_E))
  rw [e1, e1, e1]
  rfl
theorem hw_51 : (wsE cI cB x1 x2 x3 q1 a1 q2 a2)[51]? = some (zA (Z0 D cI cB x1 x2 x3 q1 a1 q2 a2 b sz) 51, cellF (Z0 D cI cB x1 x2 x3 q1 a1 q2 a2 b sz) (M0 (nnT x1 x2 x3)) 51) := rfl
theorem hw_52 : (wsE cI cB x1 x2 x3 q1 a1 q2 a2)[52]? = some (zA (Z0 D cI cB x1 x2 x3 q1 a1 q2 a2 b sz) 52, cellF (Z0 D cI cB x1 x2 x3 q1 a1 q2 a2 b sz) (M0 (nnT x1 x2 x3)) 52) := rfl
theorem hw_53 : (wsE cI cB x1 x2 x3 q1 a1 q2 a2)[53]? = some (zA (Z0 D cI cB x1 x2 x3 q1 a1 q2 a2 b sz) 53, cellF (Z0 D cI cB x1 x2 x3 q1 a1 q2 a2 b sz) (M0 (nnT x1 x2 x3)) 53) := rfl
theorem hw_54 : (wsE cI cB x1 x2 x3 q1 a1 q2 a2)[54]? = some (zA (Z0 D cI cB x1 x2 x3 q1 a1 q2 a2 b sz) 54, cellF (Z0 D cI cB x1 x2 x3 q1 a1 q2 a2 b sz) (M0 (nnT x1 x2 x3)) 54) := rfl
theorem hw_55 : (wsE cI cB x1 x2 x3 q1 a1 q2 a2)[55]? = some (zA (Z0 D cI cB x1 x2 x3 q1 a1 q2 a2 b sz) 55, cellF (Z0 D cI cB x1 x2 x3 q1 a1 q2 a2 b sz) (M0 (nnT x1 x2 x3)) 55) := rfl
theorem hw_56 : (wsE cI cB x1 x2 x3 q1 a1 q2 a2)[56]? = some (zA (Z0 D cI cB x1 x2 x3 q1 a1 q2 a2 b sz) 56, cellF (Z0 D cI cB x1 x2 x3 q1 a1 q2 a2 b sz) (M0 (nnT x1 x2 x3)) 56) := rfl
theorem hw_57 : (wsE cI cB x1 x2 x3 q1 a1 q2 a2)[57]? = some (zA (Z0 D cI cB x1 x2 x3 q1 a1 q2 a2 b sz) 57, cellF (Z0 D cI cB x1 x2 x3 q1 a1 q2 a2 b sz) (M0 (nnT x1 x2 x3)) 57) := rfl
theorem hw_58 : (wsE cI cB x1 x2 x3 q1 a1 q2 a2)[58]? = some (zA (Z0 D cI cB x1 x2 x3 q1 a1 q2 a2 b sz) 58, cellF (Z0 D cI cB x1 x2 x3 q1 a1 q2 a2 b sz) (M0 (nnT x1 x2 x3)) 58) := rfl
theorem hw_59 : (wsE cI cB x1 x2 x3 q1 a1 q2 a2)[59]? = some (zA (Z0 D cI cB x1 x2 x3 q1 a1 q2 a2 b sz) 59, cellF (Z0 D cI cB x1 x2 x3 q1 a1 q2 a2 b sz) (M0 (nnT x1 x2 x3)) 59) := rfl
theorem hw_60 : (wsE cI cB x1 x2 x3 q1 a1 q2 a2)[60]? = some (zA (Z0 D cI cB x1 x2 x3 q1 a1 q2 a2 b sz) 60, cellF (Z0 D cI cB x1 x2 x3 q1 a1 q2 a2 b sz) (M0 (nnT x1 x2 x3)) 60) := rfl
theorem hw_61 : (wsE cI cB x1 x2 x3 q1 a1 q2 a2)[61]? = some (zA (Z0 D cI cB x1 x2 x3 q1 a1 q2 a2 b sz) 61, cellF (Z0 D cI cB x1 x2 x3 q1 a1 q2 a2 b sz) (M0 (nnT x1 x2 x3)) 61) := rfl
theorem hw_62 : (wsE cI cB x1 x2 x3 q1 a1 q2 a2)[62]? = some (zA (Z0 D cI cB x1 x2 x3 q1 a1 q2 a2 b sz) 62, cellF (Z0 D cI cB x1 x2 x3 q1 a1 q2 a2 b sz) (M0 (nnT x1 x2 x3)) 62) := rfl
theorem hw_63 : (wsE cI cB x1 x2 x3 q1 a1 q2 a2)[63]? = some (zA (Z0 D cI cB x1 x2 x3 q1 a1 q2 a2 b sz) 63, cellF (Z0 D cI cB x1 x2 x3 q1 a1 q2 a2 b sz) (M0 (nnT x1 x2 x3)) 63) := rfl
theorem hw_64 : (wsE cI cB x1 x2 x3 q1 a1 q2 a2)[64]? = some (zA (Z0 D cI cB x1 x2 x3 q1 a1 q2 a2 b sz) 64, cellF (Z0 D cI cB x1 x2 x3 q1 a1 q2 a2 b sz) (M0 (nnT x1 x2 x3)) 64) := rfl
theorem hw_65 : (wsE cI cB x1 x2 x3 q1 a1 q2 a2)[65]? = some (zA (Z0 D cI cB x1 x2 x3 q1 a1 q2 a2 b sz) 65, cellF (Z0 D cI cB x1 x2 x3 q1 a1 q2 a2 b sz) (M0 (nnT x1 x2 x3)) 65) := rfl
theorem hw_66 : (wsE cI cB x1 x2 x3 q1 a1 q2 a2)[66]? = some (zA (Z0 D cI cB x1 x2 x3 q1 a1 q2 a2 b sz) 66, cellF (Z0 D cI cB x1 x2 x3 q1 a1 q2 a2 b sz) (M0 (nnT x1 x2 x3)) 66) := rfl
theorem hw_all : ∀ i, i < 67 → (wsE cI cB x1 x2 x3 q1 a1 q2 a2)[PLm.getD i 0]? = some (zA (Z0 D cI cB x1 x2 x3 q1 a1 q2 a2 b sz) i, cellF (Z0 D cI cB x1 x2 x3 q1 a1 q2 a2 b sz) (M0 (nnT x1 x2 x3)) i)
  | 0, _ => hw_0
  | 1, _ => hw_1
  | 2, _ => hw_2
  | 3, _ => hw_3
  | 4, _ => hw_4
  | 5, _ => hw_5
  | 6, _ => hw_6
  | 7, _ => hw_7
  | 8, _ => hw_8
  | 9, _ => hw_9
  | 10, _ => hw_10
  | 11, _ => hw_11
  | 12, _ => hw_12
  | 13, _ => hw_13
  | 14, _ => hw_14
  | 15, _ => hw_15
  | 16, _ => hw_16
  | 17, _ => hw_17
  | 18, _ => hw_18
  | 19, _ => hw_19
  | 20, _ => hw_20
  | 21, _ => hw_21
  | 22, _ => hw_22
  | 23, _ => hw_23
  | 24, _ => hw_24
  | 25, _ => hw_25
  | 26, _ => hw_26
  | 27, _ => hw_27
  | 28, _ => hw_28
  | 29, _ => hw_29
  | 30, _ => hw_30
  | 31, _ => hw_31
  | 32, _ => hw_32
  | 33, _ => hw_33
  | 34, _ => hw_34
  | 35, _ => hw_35
  | 36, _ => hw_36
  | 37, _ => hw_37
  | 38, _ => hw_38
  | 39, _ => hw_39
  | 40, _ => hw_40
  | 41, _ => hw_41
  | 42, _ => hw_42
  | 43, _ => hw_43
  | 44, _ => hw_44
  | 45, _ => hw_45
  | 46, _ => hw_46
  | 47, _ => hw_47
  | 48, _ => hw_48
  | 49, _ => hw_49
  | 50, _ => hw_50
  | 51, _ => hw_51
  | 52, _ => hw_52
  | 53, _ => hw_53
  | 54, _ => hw_54
  | 55, _ => hw_55
  | 56, _ => hw_56
  | 57, _ => hw_57
  | 58, _ => hw_58
  | 59, _ => hw_59
  | 60, _ => hw_60
  | 61, _ => hw_61
  | 62, _ => hw_62
  | 63, _ => hw_63
  | 64, _ => hw_64
  | 65, _ => hw_65
  | 66, _ => hw_66
  | n + 67, h => absurd h (by omega)
theorem PLm_inj : ∀ i, i < 67 → ∀ j, j < 67 → PLm.getD i 0 = PLm.getD j 0 → i = j := by decide +kernel
theorem Z0_ad (hD : va_D (fun q => sz ≤ q) (wsE cI cB x1 x2 x3 q1 a1 q2 a2)) : adOk (Z0 D cI cB x1 x2 x3 q1 a1 q2 a2 b sz) := by
  refine ⟨fun i j hi hj he => PLm_inj i hi j hj (hD.1 _ _ _ _ (hw_all (D := D) (b := b) (sz := sz) i hi) (hw_all (D := D) (b := b) (sz := sz) j hj) he), fun i hi => ?_⟩
  exact hD.2 _ _ (hw_all (D := D) (b := b) (sz := sz) i hi)
theorem Z0_P {H : Heap} (hP : va_P D vwCl (wsE cI cB x1 x2 x3 q1 a1 q2 a2) H) : va_P D vwCl (wldF (Z0 D cI cB x1 x2 x3 q1 a1 q2 a2 b sz) (M0 (nnT x1 x2 x3))) H := by
  intro k q hq
  by_cases h6 : k < 67
  · rw [wldF_at _ _ h6] at hq
    cases hq
    exact hP _ _ (hw_all k h6)
  · have a1 : (wldF (Z0 D cI cB x1 x2 x3 q1 a1 q2 a2 b sz) (M0 (nnT x1 x2 x3)))[k]? = none := by unfold wldF; simpa using h6
    rw [a1] at hq
    cases hq
theorem nnT_ok : 1 ≤ (nnT x1 x2 x3).1 ∧ (nnT x1 x2 x3).1 ≤ 24 ∧ 16 ≤ (nnT x1 x2 x3).2.1 ∧ (nnT x1 x2 x3).2.1 ≤ 800 ∧ 8 ≤ (nnT x1 x2 x3).2.2 ∧ (nnT x1 x2 x3).2.2 ≤ 400 := ⟨nrN_ge x1 1 24 (by decide) (by decide), nrN_le x1 1 24 (by decide) (by decide), nrN_ge x2 16 800 (by decide) (by decide), nrN_le x2 16 800 (by decide) (by decide), nrN_ge x3 8 400 (by decide) (by decide), nrN_le x3 8 400 (by decide) (by decide)⟩
theorem lnF_lt {n : Nn} (h1 : n.1 ≤ 24) (h2 : n.2.1 ≤ 800) (h3 : n.2.2 ≤ 400) (a : Nat) : lnF n a < 2147483648 := by
  unfold lnF
  split <;> omega
theorem Z0_ok (hD : va_D (fun q => sz ≤ q) (wsE cI cB x1 x2 x3 q1 a1 q2 a2)) : ZOk (Z0 D cI cB x1 x2 x3 q1 a1 q2 a2 b sz) := by
  have h := nnT_ok (x1 := x1) (x2 := x2) (x3 := x3)
  exact ⟨Z0_ad hD, fun a => lnF_lt h.2.1 h.2.2.2.1 h.2.2.2.2.2 a, h⟩
end FIRST
theorem M0_z {n : Nn} {o k : Nat} (h0 : o ≠ 0) (h1 : o ≠ 1) (h50 : o ≠ 50) : M0 n o k = 0 := by
  have e0 : Nat.beq o 0 = false := by rw [← Bool.not_eq_true]; exact fun h => h0 (Nat.eq_of_beq_eq_true h)
  have e1 : Nat.beq o 1 = false := by rw [← Bool.not_eq_true]; exact fun h => h1 (Nat.eq_of_beq_eq_true h)
  have e2 : Nat.beq o 50 = false := by rw [← Bool.not_eq_true]; exact fun h => h50 (Nat.eq_of_beq_eq_true h)
  unfold M0
  rw [e2, e1, e0]
  rfl
theorem INV0 {n : Nn} (h1 : 1 ≤ n.1) (h2 : n.1 ≤ 24) (h3 : 16 ≤ n.2.1) (h4 : n.2.1 ≤ 800) (h6 : n.2.2 ≤ 400) : INV n (M0 n) := by
  have rm0 : ∀ t, rmM n (M0 n) t = 0 := by
    intro t
    unfold rmM
    rw [M0_z (by omega) (by omega) (by omega), M0_z (by omega) (by omega) (by omega)]
    split
    · simp
    · split
      · rw [M0_z (by omega) (by omega) (by omega)]
      · rfl
  refine ⟨(fun _ => 0, fun _ => 0, 0, fun _ => 0), (0, fun _ => 0), (0, fun _ => 0), (0, fun _ => 0), -1, ⟨?_, ⟨rfl, by decide, fun i hi => by change i < 0 at hi; omega⟩, ⟨rfl, by decide, fun i hi => by change i < 0 at hi; omega⟩, ⟨rfl, Nat.zero_le _, h6, fun i hi => by change i < 0 at hi; omega⟩, rfl⟩, ⟨?_, ⟨rfl, by decide, fun i hi => by change i < 0 at hi; omega⟩, ⟨rfl, by decide, fun i hi => by change i < 0 at hi; omega⟩, ⟨⟨rfl, by decide, fun i hi => by change i < 0 at hi; omega⟩, rfl, Nat.zero_le _, h6⟩, rfl⟩⟩
  · refine ⟨⟨h1, h2, h3, h4, by decide⟩, ⟨rfl, rfl, rfl⟩, fun t _ => ⟨rfl, Int.le_refl _, Int.le_refl _, by show (0 : Int) ≤ _; omega, fun h => absurd h (Int.lt_irrefl _)⟩, fun t _ _ => rfl, fun t u _ _ _ h _ => absurd h (Int.lt_irrefl _), fun h _ hh => absurd hh (Int.lt_irrefl _), fun h _ hh => absurd hh (Int.lt_irrefl _)⟩
  · refine ⟨⟨⟨h1, h2, h3, h4, rfl, rfl, rfl, by decide, fun h _ => Or.inl rfl, fun t ht hh => ?_⟩, fun t u _ _ _ h _ => absurd h (Int.lt_irrefl _), fun t _ => ⟨rm0 t, fun h => absurd h (Int.lt_irrefl _)⟩⟩, rfl, fun h _ hh => absurd hh (Int.lt_irrefl _), fun h _ hh => absurd hh (Int.lt_irrefl _)⟩
    have := hh (by omega)
    have e : M0 n 53 t = 0 := M0_z (by omega) (by omega) (by omega)
    omega
