/-! ===== bits of sets ===== -/
theorem tb_sh : ∀ k : Fin 32, ((nI k.val &&& 31).toBitVec.smod 32).toNat = k.val := by decide +kernel
theorem tb_T (s : Int32) {k : Nat} (hk : k < 32) : tb s k = s.toBitVec.getLsbD k := by
  have h1 := tb_sh ⟨k, hk⟩
  have h2 : (s >>> (nI k &&& 31)).toBitVec = s.toBitVec.sshiftRight k := by
    rw [Int32.toBitVec_shiftRight, BitVec.sshiftRight', h1]
  have h3 : (s >>> (nI k &&& 31)).toBitVec.getLsbD 0 = s.toBitVec.getLsbD k := by
    rw [h2, BitVec.getLsbD_sshiftRight]
    simp [hk]
  unfold tb
  rw [pk_and _ 1 (by decide), ← h3]
  generalize (s >>> (nI k &&& 31)).toBitVec = v
  rw [show (1 : Int32) = nI 1 from rfl]
  have : v.getLsbD 0 = decide (v.toNat % 2 = 1) := by
    rw [← BitVec.testBit_toNat, Nat.testBit_zero]
  rw [this]
  apply decide_eq_decide.mpr
  rw [nI_eq (by have := Nat.mod_lt v.toNat (y := 2 ^ 1) (by decide); omega) (by decide)]
theorem tb_or {a b : Int32} {k : Nat} (hk : k < 32) : tb (a ||| b) k = (tb a k || tb b k) := by
  rw [tb_T _ hk, tb_T _ hk, tb_T _ hk, Int32.toBitVec_or, BitVec.getLsbD_or]
theorem tb_and {a b : Int32} {k : Nat} (hk : k < 32) : tb (a &&& b) k = (tb a k && tb b k) := by
  rw [tb_T _ hk, tb_T _ hk, tb_T _ hk, Int32.toBitVec_and, BitVec.getLsbD_and]
theorem tb_xor {a b : Int32} {k : Nat} (hk : k < 32) : tb (a ^^^ b) k = (tb a k != tb b k) := by
  rw [tb_T _ hk, tb_T _ hk, tb_T _ hk, Int32.toBitVec_xor, BitVec.getLsbD_xor]
theorem tb_ext {a b : Int32} (h : ∀ k, k < 32 → tb a k = tb b k) : a = b := by
  apply Int32.toBitVec_inj.mp
  apply BitVec.eq_of_getLsbD_eq
  intro i hi
  rw [← tb_T _ hi, ← tb_T _ hi]
  exact h i hi
theorem tb_bit0 : ∀ n k : Fin 32, tb ((1 : Int32) <<< (nI n.val &&& 31)) k.val = decide (k.val = n.val) := by decide +kernel
theorem tb_bit {n k : Nat} (hn : n < 32) (hk : k < 32) : tb ((1 : Int32) <<< (nI n &&& 31)) k = decide (k = n) := tb_bit0 ⟨n, hn⟩ ⟨k, hk⟩
theorem tb_z0 : ∀ k : Fin 32, tb 0 k.val = false := by decide +kernel
theorem tb_0 {k : Nat} (hk : k < 32) : tb 0 k = false := tb_z0 ⟨k, hk⟩
theorem tb_bs {p : Nat → Bool} {n k : Nat} (hn : n ≤ 32) (hk : k < 32) : tb (bs p n) k = (decide (k < n) && p k) := by
  induction n with
  | zero => simp [bs, tb_0 hk]
  | succ n ih =>
    show tb (bs p n ||| _) k = _
    rw [tb_or hk, ih (by omega)]
    by_cases hp : p n = true
    · rw [if_pos hp, tb_bit (by omega) hk]
      by_cases h : k = n
      · subst h; simp [hp]
      · by_cases h2 : k < n
        · simp [h, h2, show k < n + 1 by omega]
        · simp [h, h2, show ¬ k < n + 1 by omega]
    · rw [if_neg hp, tb_0 hk]
      by_cases h : k = n
      · subst h; simp [hp]
      · by_cases h2 : k < n
        · simp [h2, show k < n + 1 by omega]
        · simp [h2, show ¬ k < n + 1 by omega]
theorem bs_congr {p q : Nat → Bool} {n : Nat} (h : ∀ k, k < n → p k = q k) : bs p n = bs q n := by
  induction n with
  | zero => rfl
  | succ n ih =>
    show bs p n ||| _ = bs q n ||| _
    rw [ih (fun k hk => h k (by omega)), h n (by omega)]
theorem tb_all0 : ∀ n : Fin 11, ∀ k : Fin 32, tb (((1 : Int32) <<< (nI n.val &&& 31)) - 1) k.val = decide (k.val < n.val) := by decide +kernel
theorem tb_all {d : HD} {k : Nat} (W : HW d) (hk : k < 32) : tb (hAll d) k = decide (k < hN d) := tb_all0 ⟨hN d, by have := W.2.1; omega⟩ ⟨k, hk⟩
theorem hAll_bs {d : HD} (W : HW d) : hAll d = bs (fun _ => true) (hN d) := by
  have := W.2.1
  apply tb_ext
  intro k hk
  rw [tb_all W hk, tb_bs (by omega) hk, Bool.and_true]
/-- a set of words below 10 is a Nat below 2 ^ 10 -/
theorem tb_N {m k : Nat} (hm : m < 2 ^ 31) (hk : k < 32) : tb (nI m) k = m.testBit k := by
  rw [tb_T _ hk, ← BitVec.testBit_toNat, pk_tn (by omega)]
/-- bits that may come behind a word are of words -/
theorem hBeh_lt {d : HD} {w k : Nat} (W : HW d) (X : HX d) (hw : w < hN d) (hk : k < 31) (h : tb (hBeh d w) k = true) : k < hN d := by
  unfold hBeh at h
  by_cases hf : hF d = true
  · rw [if_pos hf] at h
    exact X.2.1 w hw k hk h
  · rw [if_neg hf, tb_all W (by omega)] at h
    exact of_decide_eq_true h
theorem or_z (a : Int32) : a ||| 0 = a := by simp
