/-! ===== division: the numbers ===== -/
/-- at(s, i), of a row that need not be in its shortest form -/
def c_atR : Call := ⟨Nat × Int × Nat, 3, (fun (s, i, L) vs M => vs = [.inr (.inr 50), .inl (s : Int), .inl i] ∧ s < 37 ∧ inR i ∧ M 52 s = (L : Int) ∧ L ≤ 420), .inr (fun (s, i, L) _ M x M' => x = (if i < 0 ∨ (L : Int) ≤ i then 0 else M 51 (420 * s + i.toNat)) ∧ M' = M)⟩
theorem v_atR (n : Nn) : Ver tX8_at (fdX8, icX8, lcX8, []) 1 3 n c_atR := by
  rintro ⟨s, i, L⟩ vs M0 ⟨rfl, hs, hi, h1, hn⟩ aw run
  unfold inR at hi
  have hl : lnF n 52 = 37 := rfl
  have hl2 : lnF n 51 = 15540 := rfl
  change aw 0 [some (.inr (.inr 50)), some (.inl (s : Int)), some (.inl i)] [] M0
  refine run 30 [] _ _ _ _ ?_
  repeat' first | intro h | refine And.intro ?_ ?_
  all_goals try simp only [Int.toNat_natCast] at *
  all_goals first | omega | rfl | trivial | skip
  · refine Or.inl (And.intro ?_ rfl)
    exact (if_pos (Or.inl h)).symm
  · refine Or.inl (And.intro ?_ rfl)
    rw [show (420 * (s : Int) + i).toNat = 420 * s + i.toNat by omega]
    exact (if_neg (by omega)).symm
  · refine Or.inl (And.intro ?_ rfl)
    exact (if_pos (Or.inr (by omega))).symm
theorem imX8_at_R {l : Launch} {Z : ZT} (hZ : ZOk Z) : Impl l Z yX8_at cX8_at 3 (some .int) 1 c_atR := mkImpl (rt := 1) (CL := []) hZ.1 hZ.2.1 (by decide +kernel) kX8_at fwX8 iwX8 lwX8 trivial (Nat.le_of_ble_eq_true rfl) (fun q h => absurd h List.not_mem_nil) ((v_atR _))
theorem gX8_76_R {l : Launch} {Z : ZT} (hZ : ZOk Z) {d : Nat} (hd : 2 ≤ d) : CallI l Z RX8 d (76, some 8, c_atR) := fun p e s m args below meth c Q cc nL x0 X => callOk_V X (imX8_at_R hZ) (by decide) rfl mlX8_76 iw_yX8_at vw_yX8_at nw_RX8 cw_yX8_at ⟨by decide +kernel, by decide +kernel, by decide +kernel⟩ ⟨hd, by decide⟩
/-- what is carried into digit k of t + g * b -/
def cyM (t g b k : Nat) : Nat := (t % 32768 ^ k + g * (b % 32768 ^ k)) / 32768 ^ k
theorem cyM_0 (t g b : Nat) : cyM t g b 0 = 0 := by simp [cyM, Nat.mod_one]
theorem cyM_t (t g b k : Nat) : dg t k + g * dg b k + cyM t g b k = (t % 32768 ^ (k + 1) + g * (b % 32768 ^ (k + 1))) / 32768 ^ k := by
  unfold cyM
  have e : t % 32768 ^ (k + 1) + g * (b % 32768 ^ (k + 1)) = (t % 32768 ^ k + g * (b % 32768 ^ k)) + 32768 ^ k * (dg t k + g * dg b k) := by
    rw [md_s t, md_s b]
    generalize 32768 ^ k = q
    grind
  rw [e, Nat.add_mul_div_left _ _ (nn_pos k)]
  omega
theorem cyM_d (t g b k : Nat) : (dg t k + g * dg b k + cyM t g b k) % 32768 = dg (t + g * b) k := by
  rw [cyM_t, md_dv]
  unfold dg
  rw [md_dv]
  congr 1
  simp [Nat.add_mod, Nat.mul_mod]
theorem cyM_s (t g b k : Nat) : (dg t k + g * dg b k + cyM t g b k) / 32768 = cyM t g b (k + 1) := by
  rw [cyM_t]
  unfold cyM
  rw [Nat.div_div_eq_div_mul, ← nn_succ]
theorem cyM_le (t g b k : Nat) : cyM t g b k ≤ g := by
  unfold cyM
  have h1 := Nat.mod_lt t (nn_pos k)
  have h2 := Nat.mod_lt b (nn_pos k)
  have h3 := Nat.mul_le_mul_left g (show b % 32768 ^ k ≤ 32768 ^ k by omega)
  have : (t % 32768 ^ k + g * (b % 32768 ^ k)) / 32768 ^ k < g + 1 := by
    rw [Nat.div_lt_iff_lt_mul (nn_pos k), Nat.add_mul]
    omega
  omega
/-- one more digit behind: r * 32768 + x -/
theorem sh_dg0 (r x : Nat) (h : x < 32768) : dg (r * 32768 + x) 0 = x := by unfold dg; simp; omega
theorem sh_dgs (r x j : Nat) (h : x < 32768) : dg (r * 32768 + x) (j + 1) = dg r j := by
  rw [← dg_div]
  congr 1
  omega
theorem sh_lt {r x L : Nat} (hr : r < 32768 ^ L) (h : x < 32768) : r * 32768 + x < 32768 ^ (L + 1) := by
  rw [nn_succ]
  have := Nat.mul_le_mul_right 32768 (show r + 1 ≤ 32768 ^ L by omega)
  omega
theorem dv_i (v i : Nat) : v / 32768 ^ i = v / 32768 ^ (i + 1) * 32768 + dg v i := dv_s v i
/-- long division: the next digit and the next rest -/
theorem ld_rest (v w i : Nat) : (v / 32768 ^ (i + 1) % w * 32768 + dg v i) % w = v / 32768 ^ i % w := by
  rw [dv_i v i, Nat.add_mod, Nat.mul_mod, Nat.mod_mod, ← Nat.mul_mod, ← Nat.add_mod]
theorem ld_dig (v w i : Nat) (hw : 0 < w) : (v / 32768 ^ (i + 1) % w * 32768 + dg v i) / w = dg (v / w) i := by
  have h1 := Nat.mod_lt (v / 32768 ^ (i + 1)) hw
  have h2 := dg_lt v i
  have hlt : (v / 32768 ^ (i + 1) % w * 32768 + dg v i) / w < 32768 := by
    rw [Nat.div_lt_iff_lt_mul hw]
    have := Nat.mul_le_mul_right 32768 (show v / 32768 ^ (i + 1) % w + 1 ≤ w by omega)
    omega
  have e : v / 32768 ^ i / w = v / 32768 ^ (i + 1) / w * 32768 + (v / 32768 ^ (i + 1) % w * 32768 + dg v i) / w := by
    have h3 := Nat.div_add_mod (v / 32768 ^ (i + 1)) w
    rw [dv_i v i]
    have h4 : v / 32768 ^ (i + 1) * 32768 + dg v i = (v / 32768 ^ (i + 1) % w * 32768 + dg v i) + w * (v / 32768 ^ (i + 1) / w * 32768) := by
      generalize v / 32768 ^ (i + 1) = x at *
      generalize x / w = y at *
      generalize x % w = z at *
      subst h3
      grind
    rw [h4, Nat.add_mul_div_left _ _ hw]
    omega
  show _ = v / w / 32768 ^ i % 32768
  rw [Nat.div_div_eq_div_mul, Nat.mul_comm w, ← Nat.div_div_eq_div_mul, e]
  clear e h1 h2
  generalize (v / 32768 ^ (i + 1) % w * 32768 + dg v i) / w = D at *
  generalize v / 32768 ^ (i + 1) / w = y
  omega
theorem ld_top (v w : Nat) : v / 32768 ^ nd v % w = 0 := by rw [dv_nd]; simp
