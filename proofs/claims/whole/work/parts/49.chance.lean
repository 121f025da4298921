/-! ===== chance ===== -/
def bt (s : Nat) : Nat := nsum (fun i => if s.testBit i = true then 1 else 0) 12
def wcn (k y : Nat) : Nat → Nat
  | 0 => 1
  | i + 1 => wcn k y i * (y - k + (i + 1)) / (i + 1)
def pw2 (p k : Nat) : Nat → Nat
  | 0 => 1
  | i + 1 => pw2 p k i * (if i < k then p else 10 - p)
theorem pw2_v (p k : Nat) : ∀ i, pw2 p k i = p ^ (min i k) * (10 - p) ^ (i - k) := by
  intro i
  induction i with
  | zero => simp [pw2]
  | succ i ih =>
    show pw2 p k i * (if i < k then p else 10 - p) = _
    rw [ih]
    by_cases h : i < k
    · rw [if_pos h, show min (i + 1) k = min i k + 1 by omega, show i + 1 - k = i - k by omega, Nat.pow_succ, Nat.mul_right_comm]
    · rw [if_neg h, show min (i + 1) k = min i k by omega, show i + 1 - k = (i - k) + 1 by omega, Nat.pow_succ, Nat.mul_assoc]
theorem ways_eq : ∀ y : Fin 10, ∀ k : Fin 13, nsum (fun s => if bt s = k.val then 1 else 0) (2 ^ y.val) = if k.val ≤ y.val then wcn k.val y.val k.val else 0 := by decide +kernel
theorem wcn_le : ∀ y : Fin 10, ∀ k : Fin 10, wcn k.val y.val k.val ≤ 512 := by decide +kernel
theorem bt_lt (s : Nat) : bt s < 13 := by
  have := nsum_le (f := fun i => if s.testBit i = true then 1 else 0) (b := 1) 12 (fun k _ => by split <;> omega)
  unfold bt
  omega
theorem nsum_add {f h : Nat → Nat} : ∀ n, nsum (fun k => f k + h k) n = nsum f n + nsum h n := by
  intro n
  induction n with
  | zero => rfl
  | succ n ih =>
    show nsum (fun k => f k + h k) n + (f n + h n) = nsum f n + f n + (nsum h n + h n)
    rw [ih]; omega
theorem nsum_one {F : Nat → Nat} {b : Nat} : ∀ M, nsum (fun k => if b = k then F k else 0) M = if b < M then F b else 0 := by
  intro M
  induction M with
  | zero => rfl
  | succ M ih =>
    show nsum (fun k => if b = k then F k else 0) M + (if b = M then F M else 0) = _
    rw [ih]
    by_cases e : b = M
    · subst e; rw [if_neg (by omega), if_pos rfl, if_pos (by omega)]; omega
    · rw [if_neg e]
      by_cases h : b < M
      · rw [if_pos h, if_pos (by omega)]; rfl
      · rw [if_neg h, if_neg (by omega)]
theorem nsum_group {F b : Nat → Nat} {M : Nat} (hb : ∀ s, b s < M) : ∀ N, nsum (fun s => F (b s)) N = nsum (fun k => nsum (fun s => if b s = k then 1 else 0) N * F k) M := by
  intro N
  induction N with
  | zero =>
    have := nsum_ext (f := fun k => 0 * F k) (n := 0) M (fun k _ _ => Nat.zero_mul _)
    rw [Nat.zero_add] at this
    exact this.symm
  | succ N ih =>
    show nsum (fun s => F (b s)) N + F (b N) = _
    rw [ih]
    have e : (fun k => nsum (fun s => if b s = k then 1 else 0) (N + 1) * F k) = fun k => nsum (fun s => if b s = k then 1 else 0) N * F k + (if b N = k then F k else 0) := by
      funext k
      show (nsum (fun s => if b s = k then 1 else 0) N + (if b N = k then 1 else 0)) * F k = _
      rw [Nat.add_mul]
      by_cases h : b N = k
      · rw [if_pos h, if_pos h, Nat.one_mul]
      · rw [if_neg h, if_neg h, Nat.zero_mul]
    rw [e, nsum_add, nsum_one, if_pos (hb N)]
/-- in how many cases, n letters at least -/
def chS (n y p : Nat) : Nat := nsum (fun j => if n ≤ j then wcn j y j * pw2 p j y else 0) (y + 1)
theorem chS_r {n y p : Nat} (hy : y ≤ 9) : nsum (fun s => if n ≤ bt s then p ^ bt s * (10 - p) ^ (y - bt s) else 0) (2 ^ y) = chS n y p := by
  rw [nsum_group (F := fun k => if n ≤ k then p ^ k * (10 - p) ^ (y - k) else 0) (b := bt) bt_lt]
  have x1 := nsum_ext (f := fun k => nsum (fun s => if bt s = k then 1 else 0) (2 ^ y) * (if n ≤ k then p ^ k * (10 - p) ^ (y - k) else 0)) (n := y + 1) (13 - (y + 1)) (fun k h1 h2 => by
    have := ways_eq ⟨y, by omega⟩ ⟨k, by omega⟩
    simp only at this
    rw [this, if_neg (by omega), Nat.zero_mul])
  rw [show y + 1 + (13 - (y + 1)) = 13 by omega] at x1
  rw [x1]
  unfold chS
  apply nsum_congr
  intro k hk
  have := ways_eq ⟨y, by omega⟩ ⟨k, by omega⟩
  simp only at this
  rw [this, if_pos (by omega), pw2_v, show min y k = k by omega]
  split
  · rfl
  · rfl
theorem pw_le {p i : Nat} (hp : p ≤ 10) (hi : i ≤ 9) : p ^ i ≤ 10 ^ 9 := Nat.le_trans (Nat.pow_le_pow_left hp i) (Nat.pow_le_pow_right (by decide) hi)
theorem pw2_le {p k : Nat} (hp : p ≤ 10) : ∀ i, pw2 p k i ≤ 10 ^ i := by
  intro i
  induction i with
  | zero => exact Nat.le_refl _
  | succ i ih =>
    show pw2 p k i * (if i < k then p else 10 - p) ≤ _
    rw [Nat.pow_succ]
    refine Nat.mul_le_mul ih ?_
    split <;> omega
theorem chS_lt {n y p : Nat} (hy : y ≤ 9) (hp : p ≤ 10) : chS n y p < 2 ^ 63 := by
  have h2 : chS n y p ≤ (y + 1) * (512 * 10 ^ 9) := by
    apply nsum_le
    intro k hk
    have a1 := wcn_le ⟨y, by omega⟩ ⟨k, by omega⟩
    have a2 := pw2_le (k := k) hp y
    have a3 : 10 ^ y ≤ 10 ^ 9 := Nat.pow_le_pow_right (by decide) hy
    split
    · exact Nat.mul_le_mul a1 (Nat.le_trans a2 a3)
    · omega
  have h3 : (y + 1) * (512 * 10 ^ 9) ≤ 10 * (512 * 10 ^ 9) := Nat.mul_le_mul_right _ (by omega)
  have h4 : 10 * (512 * 10 ^ 9) < 2 ^ 63 := by decide
  omega
theorem pw_nI : ∀ y : Fin 10, (1 : Int32) <<< (nI y.val &&& 31) = nI (2 ^ y.val) := by decide +kernel
section CHANCE
variable {g : zG} {I : Nat → Nat → Int32} {P : Nat → Nat → Option Nat} {t : TD} {im : Nat → Option TD}
theorem and_1 (s : Int32) (k : Nat) : (s >>> (nI k &&& 31)) &&& 1 = nI (if tb s k = true then 1 else 0) := by
  unfold tb
  obtain ⟨j, h1, h2⟩ := pk_andE (s >>> (nI k &&& 31)) (m := 1) 1 (by decide)
  rw [h2]
  rcases (show j = 0 ∨ j = 1 by omega) with rfl | rfl
  · decide
  · decide
theorem r_bits {s : Int32} : Cl mX12_bitsOf [.int s] (g, I, P) (some (.int (nI (nsum (fun i => if tb s i = true then 1 else 0) 12)))) (g, I, P) := by
  have key : ∀ m i, i + m = 12 → Zt none mX12_bitsOf 0 0 4 [(0, .int s), (1, .int (nI (nsum (fun i => if tb s i = true then 1 else 0) i))), (2, .int (nI i))] [] (g, I, P) (some (.int (nI (nsum (fun i => if tb s i = true then 1 else 0) 12)))) (g, I, P) := by
    intro m
    induction m with
    | zero =>
      intro i hi
      obtain rfl : i = 12 := hi
      exact wX12_bitsOf_4 ⟨fun _ => ⟨rfl, rfl⟩, fun q => absurd (by decide) q⟩
    | succ m ih =>
      intro i hi
      have ih := ih (i + 1) (by omega)
      refine wX12_bitsOf_4 ⟨fun q => absurd q (nI_ge (b := 12) (by omega) (by decide)), fun _ y hy => ?_⟩
      rw [hy, and_1, nI_add, nI_1]
      exact ih
  exact eX12_bitsOf (wX12_bitsOf_0 (key 12 0 rfl))
theorem r_bt {s : Nat} (hs : s < 2 ^ 31) : Cl mX12_bitsOf [.int (nI s)] (g, I, P) (some (.int (nI (bt s)))) (g, I, P) := by
  have e : nsum (fun i => if tb (nI s) i = true then 1 else 0) 12 = bt s := by
    unfold bt
    apply nsum_congr
    intro i hi
    rw [tb_N hs (by omega)]
  rw [← e]; exact r_bits
theorem r_power {a n : Nat} (hn : n < 2 ^ 31) : Cl mX12_power [.long (lN a), .int (nI n)] (g, I, P) (some (.long (lN (a ^ n)))) (g, I, P) := by
  have key : ∀ m i, i + m = n → Zt none mX12_power 0 0 5 [(0, .long (lN a)), (2, .int (nI n)), (3, .long (lN (a ^ i))), (5, .int (nI i))] [] (g, I, P) (some (.long (lN (a ^ n)))) (g, I, P) := by
    intro m
    induction m with
    | zero =>
      intro i hi
      obtain rfl : i = n := hi
      exact wX12_power_5 ⟨fun _ => ⟨rfl, rfl⟩, fun q => absurd (Int32.le_refl _) q⟩
    | succ m ih =>
      intro i hi
      have ih := ih (i + 1) (by omega)
      refine wX12_power_5 ⟨fun q => absurd q (nI_ge (by omega) (by omega)), fun _ => ?_⟩
      rw [lN_mul, nI_1, ← Nat.pow_succ]; exact ih
  exact eX12_power (wX12_power_0 (key n 0 (by omega)))
theorem c_ways {k y p : Nat} (hk : k ≤ y) (hy : y ≤ 9) (hp : p ≤ 10) : Cl mX11_waysOfExactly [.int (nI k), .int (nI y), .int (nI p)] (g, I, P) (some (.long (lN (wcn k y k * pw2 p k y)))) (g, I, P) := by
  have second : ∀ m i, i + m = y → Zt none mX11_waysOfExactly 0 0 34 [(0, .int (nI k)), (1, .int (nI y)), (2, .int (nI p)), (3, .long (lN (wcn k y k * pw2 p k i))), (5, .int (nI i))] [] (g, I, P) (some (.long (lN (wcn k y k * pw2 p k y)))) (g, I, P) := by
    intro m
    induction m with
    | zero =>
      intro i hi
      obtain rfl : i = y := hi
      exact wX11_waysOfExactly_34 ⟨fun _ => ⟨rfl, rfl⟩, fun q => absurd (Int32.le_refl _) q⟩
    | succ m ih =>
      intro i hi
      have ih := ih (i + 1) (by omega)
      have e : pw2 p k (i + 1) = pw2 p k i * (if i < k then p else 10 - p) := rfl
      rw [e, ← Nat.mul_assoc] at ih
      refine wX11_waysOfExactly_34 ⟨fun q => absurd q (nI_ge (by omega) (by omega)), fun _ => pk_le k i (fun h => ?_) (fun h => ?_)⟩
      · rw [if_neg (by omega)] at ih
        rw [show (10 : Int32) - nI p = nI (10 - p) from pk_sub (a := 10) hp, nI_l (by omega), lN_mul, nI_1]; exact ih
      · rw [if_pos h] at ih
        rw [nI_l (by omega), lN_mul, nI_1]; exact ih
  have bd : ∀ i, i ≤ k → wcn k y i ≤ 10 ^ i := by
    intro i
    induction i with
    | zero => intro _; exact Nat.le_refl _
    | succ i ih =>
      intro hi
      show wcn k y i * (y - k + (i + 1)) / (i + 1) ≤ _
      refine Nat.le_trans (Nat.div_le_self _ _) ?_
      rw [Nat.pow_succ]
      exact Nat.mul_le_mul (ih (by omega)) (by omega)
  have first : ∀ m i, i + m = k → Zt none mX11_waysOfExactly 0 0 5 [(0, .int (nI k)), (1, .int (nI y)), (2, .int (nI p)), (3, .long (lN (wcn k y i))), (5, .int (nI (i + 1)))] [] (g, I, P) (some (.long (lN (wcn k y k * pw2 p k y)))) (g, I, P) := by
    intro m
    induction m with
    | zero =>
      intro i hi
      obtain rfl : i = k := hi
      have s0 := second y 0 (by omega)
      rw [show pw2 p i 0 = 1 from rfl, Nat.mul_one] at s0
      exact wX11_waysOfExactly_5 ⟨fun _ => s0, fun q => absurd (nI_lt (by omega) (by omega)) q⟩
    | succ m ih =>
      intro i hi
      have ih := ih (i + 1) (by omega)
      have b1 := bd i (by omega)
      have b2 : 10 ^ i ≤ 10 ^ 9 := Nat.pow_le_pow_right (by decide) (by omega)
      have b3 : wcn k y i * (y - k + (i + 1)) ≤ 10 ^ 9 * 10 := Nat.mul_le_mul (by omega) (by omega)
      refine wX11_waysOfExactly_5 ⟨fun q => absurd q (nI_nlt (by omega) (by omega)), fun _ => ⟨?_, ?_⟩⟩
      · rw [nI_l (by omega)]; exact lN_ne (by omega) (by omega)
      · rw [pk_sub hk, nI_add, nI_l (by omega), nI_l (by omega), lN_mul, pk_lDiv (by omega) (by omega) (by omega), nI_1]; exact ih
  exact eX11_waysOfExactly (wX11_waysOfExactly_0 (first k 0 (by omega)))
theorem c_chance {n y p : Nat} {u : Int32} (hn : 1 ≤ n ∧ n ≤ 12) (hy : y ≤ 9) (hp : p ≤ 10) : Cl mX11_chance [.ref 0, .int (nI n), .int (nI y), .int (nI p), .int u] (g, I, P) (some (.long (zle (chS n y p) (10 ^ y) u))) (g, I, P) := by
  have y9 : 10 ^ y ≤ 10 ^ 9 := Nat.pow_le_pow_right (by decide) hy
  have y0 : 0 < 10 ^ y := Nat.pow_pos (by decide)
  have second : ∀ m k, k + m = max n (y + 1) → n ≤ k → Zt none mX11_chance 0 0 67 [(2, .int (nI y)), (3, .int (nI p)), (4, .int u), (5, .long (lN (10 ^ y))), (7, .long (lN (nsum (fun j => if n ≤ j then wcn j y j * pw2 p j y else 0) k))), (9, .int (nI k))] [] (g, I, P) (some (.long (zle (chS n y p) (10 ^ y) u))) (g, I, P) := by
    intro m
    induction m with
    | zero =>
      intro k hk hnk
      have e : nsum (fun j => if n ≤ j then wcn j y j * pw2 p j y else 0) k = chS n y p := by
        unfold chS
        have := nsum_ext (f := fun j => if n ≤ j then wcn j y j * pw2 p j y else 0) (n := y + 1) (k - (y + 1)) (fun j h1 h2 => if_neg (by omega))
        rw [show y + 1 + (k - (y + 1)) = k by omega] at this
        exact this
      rw [e]
      exact wX11_chance_67 ⟨fun _ => ⟨_, c_least (chS_lt hy hp) y0 (by omega), rfl, rfl⟩, fun q => absurd (nI_lt (by omega) (by omega)) q⟩
    | succ m ih =>
      intro k hk hnk
      have ih := ih (k + 1) (by omega) (by omega)
      simp only [nsum] at ih
      rw [if_pos hnk] at ih
      refine wX11_chance_67 ⟨fun q => absurd q (nI_nlt (by omega) (by omega)), fun _ => ⟨_, c_ways (by omega) hy hp, ?_⟩⟩
      rw [lN_add, nI_1]; exact ih
  have first : ∀ m i, i + m = y → Zt none mX11_chance 0 0 41 [(1, .int (nI n)), (2, .int (nI y)), (3, .int (nI p)), (4, .int u), (5, .long (lN (10 ^ i))), (7, .int (nI i))] [] (g, I, P) (some (.long (zle (chS n y p) (10 ^ y) u))) (g, I, P) := by
    intro m
    induction m with
    | zero =>
      intro i hi
      obtain rfl : i = y := hi
      have s0 := second (max n (i + 1) - n) n (by omega) (Nat.le_refl _)
      have e : nsum (fun j => if n ≤ j then wcn j i j * pw2 p j i else 0) n = 0 := by
        have := nsum_ext (f := fun j => if n ≤ j then wcn j i j * pw2 p j i else 0) (n := 0) n (fun j h1 h2 => if_neg (by omega))
        rw [Nat.zero_add] at this
        exact this
      rw [e] at s0
      exact wX11_chance_41 ⟨fun _ => s0, fun q => absurd (Int32.le_refl _) q⟩
    | succ m ih =>
      intro i hi
      have ih := ih (i + 1) (by omega)
      refine wX11_chance_41 ⟨fun q => absurd q (nI_ge (by omega) (by omega)), fun _ => ?_⟩
      rw [show (10 : Int64) = lN 10 from rfl, lN_mul, nI_1, ← Nat.pow_succ]; exact ih
  refine eX11_chance (wX11_chance_0 ⟨fun q => absurd q (nI_nlt (b := 1) (by omega) (by omega)), fun _ => ⟨fun q => absurd q (nI_nlt (a := 12) (by omega) (by omega)), fun _ => ⟨fun q => absurd q (nI_pos (by omega)), fun _ => ⟨fun q => absurd q (nI_nlt (a := 9) (by omega) (by omega)), fun _ => ⟨fun q => absurd q (nI_pos (by omega)), fun _ => ⟨fun _ => first y 0 (by omega), fun q => absurd (nI_le (b := 10) (by omega) (by omega)) q⟩⟩⟩⟩⟩⟩)
theorem r_chance {n y p : Nat} {u : Int32} (hn : 1 ≤ n ∧ n ≤ 12) (hy : y ≤ 9) (hp : p ≤ 10) : Cl mX12_chance [.ref 95, .int (nI n), .int (nI y), .int (nI p), .int u] (g, I, P) (some (.long (zle (chS n y p) (10 ^ y) u))) (g, I, P) := by
  have y9 : 10 ^ y ≤ 10 ^ 9 := Nat.pow_le_pow_right (by decide) hy
  have y0 : 0 < 10 ^ y := Nat.pow_pos (by decide)
  have y2 : 2 ^ y ≤ 2 ^ 9 := Nat.pow_le_pow_right (by decide) hy
  have ey := pw_nI ⟨y, by omega⟩
  simp only at ey
  have key : ∀ m s, s + m = 2 ^ y → Zt none mX12_chance 0 0 40 [(1, .int (nI n)), (2, .int (nI y)), (3, .int (nI p)), (4, .int u), (5, .long (lN (nsum (fun s => if n ≤ bt s then p ^ bt s * (10 - p) ^ (y - bt s) else 0) s))), (7, .int (nI s))] [] (g, I, P) (some (.long (zle (chS n y p) (10 ^ y) u))) (g, I, P) := by
    intro m
    induction m with
    | zero =>
      intro s hs
      obtain rfl : s = 2 ^ y := hs
      rw [chS_r hy]
      exact wX12_chance_40 ⟨fun _ => ⟨_, r_power (a := 10) (by omega), _, r_least (chS_lt hy hp) y0 (by omega), rfl, rfl⟩, fun q => absurd (by rw [ey]; exact Int32.le_refl _) q⟩
    | succ m ih =>
      intro s hs
      have ih := ih (s + 1) (by omega)
      simp only [nsum] at ih
      have hb := bt_lt s
      have hby : bt s ≤ y := by
        by_cases h : bt s ≤ y
        · exact h
        · exfalso
          have w0 := ways_eq ⟨y, by omega⟩ ⟨bt s, hb⟩
          simp only at w0
          rw [if_neg h] at w0
          have := nsum_0 _ w0 s (by omega)
          rw [if_pos rfl] at this
          omega
      refine wX12_chance_40 ⟨fun q => ?_, fun _ => ⟨_, r_bt (by omega), pk_lt (bt s) n (fun h => ?_) (fun h => ⟨_, r_bt (by omega), _, by rw [nI_l (by omega)]; exact r_power (by omega), _, r_bt (by omega), _, by rw [show (10 : Int32) - nI p = nI (10 - p) from pk_sub (a := 10) hp, nI_l (by omega), pk_sub hby]; exact r_power (by omega), ?_⟩)⟩⟩
      · rw [ey] at q
        exact absurd q (nI_ge (by omega) (by omega))
      · rw [if_neg (by omega)] at ih
        rw [nI_1]; exact ih
      · rw [if_pos h] at ih
        rw [lN_mul, lN_add, nI_1]; exact ih
  refine eX12_chance (wX12_chance_0 ⟨_, r_isInN (lo := 1) (hi := 12) (by omega) (by decide) (by decide), fun q => ?_, fun _ => ⟨_, r_isInN (lo := 0) (hi := 9) (by omega) (by decide) (by decide), fun q => ?_, fun _ => ⟨_, r_isInN (lo := 0) (hi := 10) (by omega) (by decide) (by decide), fun _ => key (2 ^ y) 0 (by omega), fun q => ?_⟩⟩⟩)
  · rw [decide_eq_true (by omega)] at q; exact absurd q (by decide)
  · rw [decide_eq_true (by omega)] at q; exact absurd q (by decide)
  · rw [decide_eq_true (by omega)] at q; exact absurd q (by decide)
theorem b_chance (L : LI g I P t im) (x1 x2 x3 y : Int32) : ∃ (w : Int64), Cl mX11_chance [.ref 0, .int x1, .int x2, .int x3, .int y] (g, I, P) (some (.long w)) (g, I, P) ∧ Cl mX12_chance [.ref 95, .int x1, .int x2, .int x3, .int y] (g, I, P) (some (.long w)) (g, I, P) := by
  by_cases h1 : ¬ x1 < 1 ∧ ¬ 12 < x1
  · by_cases h2 : ¬ x2 < 0 ∧ ¬ 9 < x2
    · by_cases h3 : ¬ x3 < 0 ∧ ¬ 10 < x3
      · obtain ⟨n, n1, n2, rfl⟩ := inN (lo := 1) (hi := 12) (by decide) (by decide) h1.1 h1.2
        obtain ⟨k, -, k2, rfl⟩ := inN (lo := 0) (hi := 9) (by decide) (by decide) h2.1 h2.2
        obtain ⟨p, -, p2, rfl⟩ := inN (lo := 0) (hi := 10) (by decide) (by decide) h3.1 h3.2
        exact ⟨_, c_chance ⟨n1, n2⟩ k2 p2, r_chance ⟨n1, n2⟩ k2 p2⟩
      · refine ⟨-1, eX11_chance (wX11_chance_0 ⟨fun _ => ⟨rfl, rfl⟩, fun _ => ⟨fun _ => ⟨rfl, rfl⟩, fun _ => ⟨fun _ => ⟨rfl, rfl⟩, fun _ => ⟨fun _ => ⟨rfl, rfl⟩, fun _ => ⟨fun _ => ⟨rfl, rfl⟩, fun q => ⟨fun q2 => absurd ⟨q, Int32.not_lt.mpr q2⟩ h3, fun _ => ⟨rfl, rfl⟩⟩⟩⟩⟩⟩⟩), eX12_chance (wX12_chance_0 ⟨_, r_isIn, fun _ => ⟨rfl, rfl⟩, fun _ => ⟨_, r_isIn, fun _ => ⟨rfl, rfl⟩, fun _ => ⟨_, r_isIn, fun q => ?_, fun _ => ⟨rfl, rfl⟩⟩⟩⟩)⟩
        rw [decide_eq_false h3] at q; exact absurd rfl q
    · refine ⟨-1, eX11_chance (wX11_chance_0 ⟨fun _ => ⟨rfl, rfl⟩, fun _ => ⟨fun _ => ⟨rfl, rfl⟩, fun _ => ⟨fun _ => ⟨rfl, rfl⟩, fun q => ⟨fun _ => ⟨rfl, rfl⟩, fun q2 => absurd ⟨q, q2⟩ h2⟩⟩⟩⟩), eX12_chance (wX12_chance_0 ⟨_, r_isIn, fun _ => ⟨rfl, rfl⟩, fun _ => ⟨_, r_isIn, fun _ => ⟨rfl, rfl⟩, fun q => ?_⟩⟩)⟩
      rw [decide_eq_false h2] at q; exact absurd rfl q
  · refine ⟨-1, eX11_chance (wX11_chance_0 ⟨fun _ => ⟨rfl, rfl⟩, fun q => ⟨fun _ => ⟨rfl, rfl⟩, fun q2 => absurd ⟨q, q2⟩ h1⟩⟩), eX12_chance (wX12_chance_0 ⟨_, r_isIn, fun _ => ⟨rfl, rfl⟩, fun q => ?_⟩)⟩
    rw [decide_eq_false h1] at q; exact absurd rfl q
end CHANCE
