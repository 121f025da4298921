/-! ===== feed ===== -/
/-- the k-th of the four bytes of x -/
def fb (x : Int32) (k : Nat) : Int32 := nI (x.toBitVec.toNat / 2 ^ (24 - 8 * k) % 256)
theorem fb_c (x : Int32) {k : Nat} (hk : k < 4) : zus x (nI (24 - 8 * k)) &&& 255 = fb x k := by
  rw [pk_and _ 8 (by decide)]
  unfold zus fb
  rcases (show k = 0 ∨ k = 1 ∨ k = 2 ∨ k = 3 by omega) with rfl | rfl | rfl | rfl
  · rw [pk_ushr x _ 24 (by decide)]
  · rw [pk_ushr x _ 16 (by decide)]
  · rw [pk_ushr x _ 8 (by decide)]
  · rw [pk_ushr x _ 0 (by decide)]
theorem tn_toInt (x : Int32) : (x.toBitVec.toNat : Int) = x.toInt % 4294967296 := by
  rw [← Int32.toInt_toBitVec, BitVec.toInt_eq_toNat_bmod]
  have h := x.toBitVec.isLt
  simp [Int.bmod_def]
  split <;> omega
theorem fb_r (x : Int32) {k : Nat} (hk : k < 4) : (x >>> (nI (24 - 8 * k) &&& 31)) &&& 255 = fb x k := by
  rw [pk_and _ 8 (by decide)]
  unfold fb
  congr 1
  have h1 := tn_toInt x
  have h2 := x.toBitVec.isLt
  rcases (show k = 0 ∨ k = 1 ∨ k = 2 ∨ k = 3 by omega) with rfl | rfl | rfl | rfl
  · have h3 := tn_toInt (x >>> (nI (24 - 8 * 0) &&& 31))
    rw [pk_shr x _ 24 (by decide), Int.shiftRight_eq_div_pow] at h3
    omega
  · have h3 := tn_toInt (x >>> (nI (24 - 8 * 1) &&& 31))
    rw [pk_shr x _ 16 (by decide), Int.shiftRight_eq_div_pow] at h3
    omega
  · have h3 := tn_toInt (x >>> (nI (24 - 8 * 2) &&& 31))
    rw [pk_shr x _ 8 (by decide), Int.shiftRight_eq_div_pow] at h3
    omega
  · have h3 := tn_toInt (x >>> (nI (24 - 8 * 3) &&& 31))
    rw [pk_shr x _ 0 (by decide), Int.shiftRight_eq_div_pow] at h3
    omega
theorem nI_nleD {a b : Nat} (ha : a < 2 ^ 31) (hb : b < 2 ^ 31) (h : ¬ nI a ≤ nI b) : b < a := by rw [nI_leI ha hb] at h; omega
theorem nI_nltD {a b : Nat} (ha : a < 2 ^ 31) (hb : b < 2 ^ 31) (h : ¬ nI a < nI b) : b ≤ a := by rw [nI_ltI ha hb] at h; omega
theorem fb_b (x : Int32) (k : Nat) : ∃ b, b < 256 ∧ fb x k = nI b := ⟨_, Nat.mod_lt _ (by decide), rfl⟩
section FEED
variable {g : zG} {I : Nat → Nat → Int32} {P : Nat → Nat → Option Nat} {t : TD} {im : Nat → Option TD}
theorem c_addBytes {x : Int32} {n : Nat} (S : Sg g) (Q : Sp P) (hn : I 1 1 = nI n) (h : n + 4 ≤ 600) : ∃ J, Cl mX9_addBytes [.ref 1, .int x] (g, I, P) none (g, J, P) ∧ J 1 1 = nI (n + 4) ∧ (∀ k, k < 4 → J 2 (n + k) = fb x k) ∧ (∀ k, (k < n ∨ n + 4 ≤ k) → J 2 k = I 2 k) ∧ (∀ k, k ≠ 1 → J 1 k = I 1 k) ∧ ∀ a, a ≠ 1 → a ≠ 2 → J a = I a := by
  have key : ∀ m i (K : Nat → Nat → Int32), i + m = 4 → K 1 1 = nI (n + i) → ∃ J, Zt none mX9_addBytes 0 0 3 [(0, .ref 1), (1, .int x), (2, .int (nI (24 + 8 - 8 * i) + (-8)))] [] (g, K, P) none (g, J, P) ∧ J 1 1 = nI (n + 4) ∧ (∀ k, i ≤ k → k < 4 → J 2 (n + k) = fb x k) ∧ (∀ k, (k < n + i ∨ n + 4 ≤ k) → J 2 k = K 2 k) ∧ (∀ k, k ≠ 1 → J 1 k = K 1 k) ∧ ∀ a, a ≠ 1 → a ≠ 2 → J a = K a := by
    intro m
    induction m with
    | zero =>
      intro i K hi hK
      obtain rfl : i = 4 := hi
      refine ⟨K, wX9_addBytes_3 ⟨fun _ => ⟨rfl, rfl⟩, fun q => absurd (by decide) q⟩, hK, fun k h1 h2 => by omega, fun _ _ => rfl, fun _ _ => rfl, fun _ _ _ => rfl⟩
    | succ m ih =>
      intro i K hi hK
      have e : nI (24 + 8 - 8 * i) + (-8) = nI (24 - 8 * i) := by
        rcases (show i = 0 ∨ i = 1 ∨ i = 2 ∨ i = 3 by omega) with rfl | rfl | rfl | rfl <;> decide
      have e2 : nI (24 - 8 * i) + (-8) = nI (24 + 8 - 8 * (i + 1)) + (-8) := by
        rw [show 24 + 8 - 8 * (i + 1) = 24 - 8 * i by omega]
      obtain ⟨J, z, a1, a2, a3, a4, a5⟩ := ih (i + 1) (zU (zU K 2 (n + i) (fb x i)) 1 1 (zU K 2 (n + i) (fb x i) 1 1 + 1)) (by omega) (by rw [zU_s, zU_a _ _ (by decide), hK, nI_1]; rfl)
      refine ⟨J, ?_, a1, fun k h1 h2 => ?_, fun k h1 => ?_, fun k h1 => ?_, fun a h1 h2 => ?_⟩
      · rw [e]
        refine wX9_addBytes_3 ⟨fun q => absurd q (nI_pos (by omega)), fun _ => ⟨S.k 1 9 (by decide), 2, Q.p 1 0 2 (by decide), S.k 1 9 (by decide), zU K 2 (n + i) (fb x i), ?_, S.k 1 9 (by decide), S.k 1 9 (by decide), ?_⟩⟩
        · rw [hK, fb_c x (by omega)]
          exact c_put (S.k 2 13 (by decide)) (S.l 2 600 (by decide)) (by decide) (by omega)
        · rw [e2]; exact z
      · by_cases hki : k = i
        · subst hki
          rw [a3 _ (by omega), zU_a _ _ (by decide), zU_s]
        · exact a2 k (by omega) h2
      · rw [a3 k (by omega), zU_a _ _ (by decide), zU_k _ _ (by omega)]
      · rw [a4 k h1, zU_k _ _ h1, zU_a _ _ (by decide)]
      · rw [a5 a h1 h2]
        funext k
        rw [zU_a _ _ h1, zU_a _ _ h2]
  obtain ⟨J, z, a1, a2, a3, a4, a5⟩ := key 4 0 I rfl hn
  exact ⟨J, eX9_addBytes (wX9_addBytes_0 z), a1, fun k => a2 k (by omega), fun k hk => a3 k (by omega), a4, a5⟩
/-- which of the five -/
def fx (x1 x2 x3 x4 x5 : Int32) (k : Nat) : Int32 := if k < 4 then x1 else if k < 8 then x2 else if k < 12 then x3 else if k < 16 then x4 else x5
def fy (x1 x2 x3 x4 x5 : Int32) (k : Nat) : Int32 := fb (fx x1 x2 x3 x4 x5 k) (k % 4)
theorem r_feed {x1 x2 x3 x4 x5 : Int32} {n : Nat} (S : Sg g) (Q : Sp P) (hn : I 96 4 = nI n) (h : n + 20 ≤ 600) : ∃ J, Cl mX12_feed [.ref 95, .int x1, .int x2, .int x3, .int x4, .int x5] (g, I, P) (some (.int (nI (n + 20)))) (g, J, P) ∧ J 96 4 = nI (n + 20) ∧ (∀ k, k < 20 → J 96 (10 + n + k) = fy x1 x2 x3 x4 x5 k) ∧ (∀ k, k ≠ 4 → (k < 10 + n ∨ 10 + n + 20 ≤ k) → J 96 k = I 96 k) ∧ ∀ a, a ≠ 96 → J a = I a := by
  have e4 : (4 : Int32).toNatClampNeg = 4 := by decide
  have v4 : vp_in 4 (g.2.2 96) := by rw [S.l 96 4968 (by decide)]; exact vp_in_nI (n := 4) (by decide) (by decide)
  have key : ∀ m i (K : Nat → Nat → Int32), i + m = 20 → K 96 4 = nI (n + i) → ∃ J, Zt none mX12_feed 0 0 20 [(0, .ref 95), (1, .int x1), (2, .int x2), (3, .int x3), (4, .int x4), (5, .int x5), (6, .int (nI i))] [] (g, K, P) (some (.int (nI (n + 20)))) (g, J, P) ∧ J 96 4 = nI (n + 20) ∧ (∀ k, i ≤ k → k < 20 → J 96 (10 + n + k) = fy x1 x2 x3 x4 x5 k) ∧ (∀ k, k ≠ 4 → (k < 10 + n + i ∨ 10 + n + 20 ≤ k) → J 96 k = K 96 k) ∧ ∀ a, a ≠ 96 → J a = K a := by
    intro m
    induction m with
    | zero =>
      intro i K hi hK
      obtain rfl : i = 20 := hi
      refine ⟨K, wX12_feed_20 ⟨fun _ => ⟨S.k 95 12 (by decide), 96, Q.p 95 0 96 (by decide), S.k 96 13 (by decide), v4, by rw [e4, hK], rfl⟩, fun q => absurd (by decide) q⟩, hK, fun k h1 h2 => by omega, fun _ _ _ => rfl, fun _ _ => rfl⟩
    | succ m ih =>
      intro i K hi hK
      have eI : 10 + nI (n + i) = nI (10 + n + i) := by rw [show (10 : Int32) = nI 10 from rfl, nI_add, Nat.add_assoc]
      obtain ⟨i1, i2⟩ := ix eI (N := 4968) (by omega) (by decide)
      have es : 24 - 8 * (nI i - nI i / 4 * 4) = nI (24 - 8 * (i % 4)) := by
        have h4 : i % 4 < 4 := Nat.mod_lt _ (by decide)
        rw [show (4 : Int32) = nI 4 from rfl, pk_rem (by omega) (by decide) (by decide), n8, pk_mul, show (24 : Int32) = nI 24 from rfl, pk_sub (by omega)]
      obtain ⟨J, z, a1, a2, a3, a4⟩ := ih (i + 1) (zU (zU K 96 (10 + n + i) (fy x1 x2 x3 x4 x5 i)) 96 4 (zU K 96 (10 + n + i) (fy x1 x2 x3 x4 x5 i) 96 4 + 1)) (by omega) (by rw [zU_s, zU_k _ _ (by omega), hK, nI_1]; rfl)
      refine ⟨J, ?_, a1, fun k h1 h2 => ?_, fun k h1 h2 => ?_, fun a h1 => ?_⟩
      · have step : Zt none mX12_feed 0 0 73 [(0, .ref 95), (1, .int x1), (2, .int x2), (3, .int x3), (4, .int x4), (5, .int x5), (6, .int (nI i))] [.int (fx x1 x2 x3 x4 x5 i)] (g, K, P) (some (.int (nI (n + 20)))) (g, J, P) := by
          refine wX12_feed_73 ⟨S.k 95 12 (by decide), 96, Q.p 95 0 96 (by decide), S.k 95 12 (by decide), 96, Q.p 95 0 96 (by decide), S.k 96 13 (by decide), v4, S.k 96 13 (by decide), ?_, S.k 95 12 (by decide), 96, Q.p 95 0 96 (by decide), S.k 96 13 (by decide), v4, S.k 96 13 (by decide), v4, ?_⟩
          · rw [e4, hK, S.l 96 4968 (by decide)]; exact i1
          · rw [e4, hK, i2, es, fb_r _ (Nat.mod_lt _ (by decide)), nI_1]
            exact z
        unfold fx at step
        refine wX12_feed_20 ⟨fun q => absurd q (nI_ge (b := 20) (by omega) (by decide)), fun _ => ⟨fun q1 => ⟨fun q2 => ⟨fun q3 => ⟨fun q4 => ?_, fun q4 => ?_⟩, fun q3 => ?_⟩, fun q2 => ?_⟩, fun q1 => ?_⟩⟩
        · replace q1 := (nI_leI (a := 4) (by decide) (by omega)).mp q1
          replace q2 := (nI_leI (a := 8) (by decide) (by omega)).mp q2
          replace q3 := (nI_leI (a := 12) (by decide) (by omega)).mp q3
          replace q4 := (nI_leI (a := 16) (by decide) (by omega)).mp q4
          rw [if_neg (by omega), if_neg (by omega), if_neg (by omega), if_neg (by omega)] at step
          exact step
        · replace q1 := (nI_leI (a := 4) (by decide) (by omega)).mp q1
          replace q2 := (nI_leI (a := 8) (by decide) (by omega)).mp q2
          replace q3 := (nI_leI (a := 12) (by decide) (by omega)).mp q3
          replace q4 := nI_nleD (a := 16) (by decide) (by omega) q4
          rw [if_neg (by omega), if_neg (by omega), if_neg (by omega), if_pos (by omega)] at step
          exact step
        · replace q1 := (nI_leI (a := 4) (by decide) (by omega)).mp q1
          replace q2 := (nI_leI (a := 8) (by decide) (by omega)).mp q2
          replace q3 := nI_nleD (a := 12) (by decide) (by omega) q3
          rw [if_neg (by omega), if_neg (by omega), if_pos (by omega)] at step
          exact step
        · replace q1 := (nI_leI (a := 4) (by decide) (by omega)).mp q1
          replace q2 := nI_nleD (a := 8) (by decide) (by omega) q2
          rw [if_neg (by omega), if_pos (by omega)] at step
          exact step
        · replace q1 := nI_nleD (a := 4) (by decide) (by omega) q1
          rw [if_pos (by omega)] at step
          exact step
      · by_cases hki : k = i
        · subst hki
          rw [a3 _ (by omega) (by omega), zU_k _ _ (by omega), zU_s]
        · exact a2 k (by omega) h2
      · rw [a3 k h1 (by omega), zU_k _ _ h1, zU_k _ _ (by omega)]
      · rw [a4 a h1]
        funext k
        rw [zU_a _ _ h1, zU_a _ _ h1]
  obtain ⟨J, z, a1, a2, a3, a4⟩ := key 20 0 I rfl hn
  refine ⟨J, eX12_feed (wX12_feed_0 ⟨S.k 95 12 (by decide), 96, Q.p 95 0 96 (by decide), S.k 96 13 (by decide), v4, fun _ => z, fun q => ?_⟩), a1, fun k => a2 k (by omega), fun k hk => a3 k hk, a4⟩
  rw [e4, hn, show (20 : Int32) = nI 20 from rfl, nI_add] at q
  exact absurd (nI_le (b := 600) h (by decide)) q
theorem c_feed {x1 x2 x3 x4 x5 : Int32} {n : Nat} (S : Sg g) (Q : Sp P) (hn : I 1 1 = nI n) (h : n + 20 ≤ 600) : ∃ J, Cl mX11_feed [.ref 0, .int x1, .int x2, .int x3, .int x4, .int x5] (g, I, P) (some (.int (nI (n + 20)))) (g, J, P) ∧ J 1 1 = nI (n + 20) ∧ (∀ k, k < 20 → J 2 (n + k) = fy x1 x2 x3 x4 x5 k) ∧ (∀ k, (k < n ∨ n + 20 ≤ k) → J 2 k = I 2 k) ∧ (∀ k, k ≠ 1 → J 1 k = I 1 k) ∧ ∀ a, a ≠ 1 → a ≠ 2 → J a = I a := by
  obtain ⟨J1, z1, a1, b1, c1, d1, f1⟩ := c_addBytes (x := x1) S Q hn (by omega)
  obtain ⟨J2, z2, a2, b2, c2, d2, f2⟩ := c_addBytes (x := x2) S Q a1 (by omega)
  obtain ⟨J3, z3, a3, b3, c3, d3, f3⟩ := c_addBytes (x := x3) S Q a2 (by omega)
  obtain ⟨J4, z4, a4, b4, c4, d4, f4⟩ := c_addBytes (x := x4) S Q a3 (by omega)
  obtain ⟨J5, z5, a5, b5, c5, d5, f5⟩ := c_addBytes (x := x5) S Q a4 (by omega)
  refine ⟨J5, eX11_feed (wX11_feed_0 ⟨S.k 0 11 (by decide), 1, Q.p 0 0 1 (by decide), S.k 1 9 (by decide), fun _ => ⟨S.k 0 11 (by decide), 1, Q.p 0 0 1 (by decide), S.k 1 9 (by decide), _, z1, S.k 0 11 (by decide), 1, Q.p 0 0 1 (by decide), S.k 1 9 (by decide), _, z2, S.k 0 11 (by decide), 1, Q.p 0 0 1 (by decide), S.k 1 9 (by decide), _, z3, S.k 0 11 (by decide), 1, Q.p 0 0 1 (by decide), S.k 1 9 (by decide), _, z4, S.k 0 11 (by decide), 1, Q.p 0 0 1 (by decide), S.k 1 9 (by decide), _, z5, S.k 0 11 (by decide), 1, Q.p 0 0 1 (by decide), S.k 1 9 (by decide), ?_, rfl⟩, fun q => ?_⟩), a5, fun k hk => ?_, fun k hk => ?_, fun k hk => ?_, fun a h1 h2 => ?_⟩
  · rw [a5]
  · rw [hn, show (20 : Int32) = nI 20 from rfl, nI_add] at q
    exact absurd (nI_le (b := 600) h (by decide)) q
  · unfold fy fx
    by_cases k1 : k < 4
    · rw [if_pos k1, c5 _ (by omega), c4 _ (by omega), c3 _ (by omega), c2 _ (by omega), b1 k k1, Nat.mod_eq_of_lt k1]
    · by_cases k2 : k < 8
      · rw [if_neg k1, if_pos k2, c5 _ (by omega), c4 _ (by omega), c3 _ (by omega), show n + k = n + 4 + k % 4 by omega, b2 _ (Nat.mod_lt _ (by decide))]
      · by_cases k3 : k < 12
        · rw [if_neg k1, if_neg k2, if_pos k3, c5 _ (by omega), c4 _ (by omega), show n + k = n + 4 + 4 + k % 4 by omega, b3 _ (Nat.mod_lt _ (by decide))]
        · by_cases k4 : k < 16
          · rw [if_neg k1, if_neg k2, if_neg k3, if_pos k4, c5 _ (by omega), show n + k = n + 4 + 4 + 4 + k % 4 by omega, b4 _ (Nat.mod_lt _ (by decide))]
          · rw [if_neg k1, if_neg k2, if_neg k3, if_neg k4, show n + k = n + 4 + 4 + 4 + 4 + k % 4 by omega, b5 _ (Nat.mod_lt _ (by decide))]
  · rw [c5 _ (by omega), c4 _ (by omega), c3 _ (by omega), c2 _ (by omega), c1 _ (by omega)]
  · rw [d5 _ hk, d4 _ hk, d3 _ hk, d2 _ hk, d1 _ hk]
  · rw [f5 a h1 h2, f4 a h1 h2, f3 a h1 h2, f2 a h1 h2, f1 a h1 h2]
theorem b_feed (L : LI g I P t im) (x1 x2 x3 x4 x5 : Int32) : ∃ (w : Int32) (I1 : Nat → Nat → Int32) (J : Nat → Nat → Int32) (t' : TD), Cl mX11_feed [.ref 0, .int x1, .int x2, .int x3, .int x4, .int x5] (g, I, P) (some (.int w)) (g, I1, P) ∧ Cl mX12_feed [.ref 95, .int x1, .int x2, .int x3, .int x4, .int x5] (g, I1, P) (some (.int w)) (g, J, P) ∧ LI g J P t' im := by
  have L0 := L
  obtain ⟨S, Q, W, D, M, -⟩ := L
  have M4 : I 96 4 = nI (tLen t) := M.1.1
  by_cases h : tLen t + 20 ≤ 600
  · obtain ⟨I1, z1, a1, b1, c1, d1, f1⟩ := c_feed (x1 := x1) (x2 := x2) (x3 := x3) (x4 := x4) (x5 := x5) S Q D.1.1 h
    obtain ⟨J, z2, a2, b2, c2, f2⟩ := r_feed (x1 := x1) (x2 := x2) (x3 := x3) (x4 := x4) (x5 := x5) (I := I1) S Q (by rw [f1 96 (by decide) (by decide)]; exact M4) h
    have hJ : ∀ a, a ≠ 1 → a ≠ 2 → a ≠ 96 → J a = I a := fun a h1 h2 h3 => by rw [f2 a h3, f1 a h1 h2]
    have hJ96 : ∀ k, k ≠ 4 → (k < 10 + tLen t ∨ 10 + tLen t + 20 ≤ k) → J 96 k = I 96 k := fun k h1 h2 => by rw [c2 k h1 h2, f1 96 (by decide) (by decide)]
    refine ⟨_, I1, J, ((tLen t + 20, fun k => if k < tLen t then tByte t k else fy x1 x2 x3 x4 x5 (k - tLen t)), t.2), z1, z2, ?_⟩
    have W' : TW ((tLen t + 20, fun k => if k < tLen t then tByte t k else fy x1 x2 x3 x4 x5 (k - tLen t)), t.2) := by
      refine ⟨⟨h, fun k hk => ?_⟩, W.2⟩
      show ∃ b, b < 256 ∧ (if k < tLen t then tByte t k else fy x1 x2 x3 x4 x5 (k - tLen t)) = nI b
      by_cases hk2 : k < tLen t
      · rw [if_pos hk2]; exact W.1.2 k hk2
      · rw [if_neg hk2]; exact fb_b _ _
    refine L0.re (KpP.rf Q) (fun a ha => hJ a (by omega) (by omega) (by omega)) (hJ 97 (by decide) (by decide) (by decide)) (fun k hk => hJ96 k (by omega) (by omega)) (by rw [hJ 8 (by decide) (by decide) (by decide), hJ 24 (by decide) (by decide) (by decide)]; exact L0.2.2.2.2.2.2.2.1) W' ⟨⟨?_, ?_, ?_, fun k hk => ?_⟩, ?_, ?_⟩ ⟨⟨?_, ?_, ?_, fun k hk => ?_⟩, ?_, ?_⟩
    · rw [f2 1 (by decide)]; exact a1
    · rw [f2 1 (by decide), d1 2 (by decide)]; exact D.1.2.1
    · rw [f2 1 (by decide), d1 3 (by decide)]; exact D.1.2.2.1
    · show J 2 k = if k < tLen t then tByte t k else fy x1 x2 x3 x4 x5 (k - tLen t)
      rw [f2 2 (by decide)]
      have hk : k < tLen t + 20 := hk
      by_cases hk2 : k < tLen t
      · rw [if_pos hk2, c1 k (by omega)]; exact D.1.2.2.2 k hk2
      · rw [if_neg hk2, ← b1 (k - tLen t) (by omega), Nat.add_sub_cancel' (by omega)]
    · rw [hJ 3 (by decide) (by decide) (by decide)]; exact D.2.1
    · exact TlB.keep W' (show TlB I 1 ((tLen t + 20, fun k => if k < tLen t then tByte t k else fy x1 x2 x3 x4 x5 (k - tLen t)), t.2) from D.2.2) (fun j q1 q2 => hJ _ (by omega) (by omega) (by omega))
    · exact a2
    · exact (hJ96 5 (by decide) (by omega)).trans M.1.2.1
    · exact (hJ96 6 (by decide) (by omega)).trans M.1.2.2.1
    · show J 96 (0 + 10 + k) = if k < tLen t then tByte t k else fy x1 x2 x3 x4 x5 (k - tLen t)
      have hk : k < tLen t + 20 := hk
      by_cases hk2 : k < tLen t
      · rw [if_pos hk2]; exact (hJ96 _ (by omega) (by omega)).trans (M.1.2.2.2 k hk2)
      · rw [if_neg hk2, ← b2 (k - tLen t) (by omega), show 0 + 10 + k = 10 + tLen t + (k - tLen t) by omega]
    · obtain ⟨c1, c2, c3, c4⟩ := M.2.1
      exact ⟨(hJ96 _ (by decide) (by omega)).trans c1, (hJ96 _ (by decide) (by omega)).trans c2, (hJ96 _ (by decide) (by omega)).trans c3, (hJ96 _ (by decide) (by omega)).trans c4⟩
    · exact MtB.keep W' (show MtB I 0 ((tLen t + 20, fun k => if k < tLen t then tByte t k else fy x1 x2 x3 x4 x5 (k - tLen t)), t.2) from M.2.2) (fun k q1 q2 => hJ96 k (by omega) (by omega))
  · have hl := W.1.1
    have e4 : (4 : Int32).toNatClampNeg = 4 := by decide
    have v4 : vp_in 4 (g.2.2 96) := by rw [S.l 96 4968 (by decide)]; exact vp_in_nI (n := 4) (by decide) (by decide)
    refine ⟨-1, I, I, t, ?_, ?_, L0⟩
    · refine eX11_feed (wX11_feed_0 ⟨S.k 0 11 (by decide), 1, Q.p 0 0 1 (by decide), S.k 1 9 (by decide), fun q => ?_, fun _ => ⟨rfl, rfl⟩⟩)
      rw [D.1.1, show (20 : Int32) = nI 20 from rfl, nI_add] at q
      exact absurd ((nI_leI (b := 600) (by omega) (by decide)).mp q) h
    · refine eX12_feed (wX12_feed_0 ⟨S.k 95 12 (by decide), 96, Q.p 95 0 96 (by decide), S.k 96 13 (by decide), v4, fun q => ?_, fun _ => ⟨rfl, rfl⟩⟩)
      rw [e4, M4, show (20 : Int32) = nI 20 from rfl, nI_add] at q
      exact absurd ((nI_leI (b := 600) (by omega) (by decide)).mp q) h
end FEED
