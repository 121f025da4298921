/-! ===== chain ===== -/
theorem all_n0 : ∀ n : Fin 11, ((1 : Int32) <<< (nI n.val &&& 31)) - 1 = nI (2 ^ n.val - 1) := by decide +kernel
theorem hAll_n {d : HD} (W : HW d) : hAll d = nI (2 ^ hN d - 1) := all_n0 ⟨hN d, by have := W.2.1; omega⟩
theorem nI_and {s u : Nat} (hs : s < 2 ^ 31) (hu : u < 2 ^ 31) : nI s &&& nI u = nI (s &&& u) := by
  apply tb_ext
  intro k hk
  have h := Nat.and_le_left (n := s) (m := u)
  rw [tb_and hk, tb_N hs hk, tb_N hu hk, tb_N (by omega) hk, Nat.testBit_and]
theorem dj_and {s u : Nat} : s &&& u = 0 ↔ dj s u := by
  constructor
  · intro h k hk
    have : (s &&& u).testBit k = false := by rw [h]; exact tB_0 k
    rw [Nat.testBit_and, hk, Bool.true_and] at this
    exact this
  · intro h
    apply tB_ext
    intro k
    rw [Nat.testBit_and, tB_0]
    cases hk : s.testBit k with
    | false => rfl
    | true => rw [h k hk]; rfl
theorem bs_0 {p : Nat → Bool} {N : Nat} (hN : N ≤ 32) : bs p N = 0 ↔ anyB p N = false := by
  constructor
  · intro h
    apply anyB_f
    intro k hk
    have : tb (bs p N) k = false := by rw [h]; exact tb_0 (by omega)
    rw [tb_bs hN (by omega), decide_eq_true hk, Bool.true_and] at this
    exact this
  · intro h
    apply tb_ext
    intro k hk
    rw [tb_bs hN hk, tb_0 hk]
    by_cases e : k < N
    · cases hp : p k with
      | false => rw [Bool.and_false]
      | true => rw [anyB_t _ k e hp] at h; cases h
    · rw [decide_eq_false e, Bool.false_and]
theorem and_bs {x : Int32} {p : Nat → Bool} {N : Nat} (hN : N ≤ 32) : x &&& bs p N = 0 ↔ anyB (fun v => tb x v && p v) N = false := by
  have e : x &&& bs p N = bs (fun v => tb x v && p v) N := by
    apply tb_ext
    intro k hk
    rw [tb_and hk, tb_bs hN hk, tb_bs hN hk]
    cases tb x k <;> cases decide (k < N) <;> rfl
  rw [e]
  exact bs_0 hN
theorem lst_congr {p q : Nat → Bool} : ∀ m w, (∀ k, w ≤ k → k < w + m → p k = q k) → lst p m w = lst q m w := by
  intro m
  induction m with
  | zero => intro w _; rfl
  | succ m ih =>
    intro w h
    show (if p w = true then some w else lst p m (w + 1)) = (if q w = true then some w else lst q m (w + 1))
    rw [h w (by omega) (by omega), ih (w + 1) (fun k h1 h2 => h k (by omega) (by omega))]
theorem lst_ext {p : Nat → Bool} : ∀ m n w, (∀ k, w + m ≤ k → k < w + m + n → p k = false) → lst p (m + n) w = lst p m w := by
  intro m
  induction m with
  | zero =>
    intro n
    induction n with
    | zero => intro w _; rfl
    | succ n ih =>
      intro w h
      show lst p (0 + n + 1) w = none
      rw [lst_f (h w (by omega) (by omega))]
      exact ih (w + 1) (fun k h1 h2 => h k (by omega) (by omega))
  | succ m ih =>
    intro n w h
    rw [show m + 1 + n = (m + n) + 1 by omega]
    show (if p w = true then some w else lst p (m + n) (w + 1)) = (if p w = true then some w else lst p m (w + 1))
    rw [ih n (w + 1) (fun k h1 h2 => h k (by omega) (by omega))]
theorem tb_m1 : ∀ k : Fin 32, tb (-1) k.val = true := by decide +kernel
theorem bI_n (b : Nat) : bI b = nI b - 1 := by
  cases b with
  | zero => rfl
  | succ w => rw [nI_d1]; rfl
def cQ (d : HD) (u b l w : Nat) : Bool := !u.testBit w && (tb (hBw d b) w && decide (1 + mM d (u ||| 2 ^ w) (w + 1) = l))
def cW (d : HD) : Nat → Nat → Nat → Nat → Int32
  | 0, u, b, l => if l = 0 then -1 else oI (lst (cQ d u b l) 10 0)
  | k + 1, u, b, l => if l = 0 then -1 else match lst (cQ d u b l) 10 0 with
    | none => -1
    | some w => cW d k (u ||| 2 ^ w) (w + 1) (l - 1)
theorem cW_z {d : HD} {k u b : Nat} : cW d k u b 0 = -1 := by
  cases k with
  | zero => show (if (0 : Nat) = 0 then _ else _) = _; rw [if_pos rfl]
  | succ k => show (if (0 : Nat) = 0 then _ else _) = _; rw [if_pos rfl]
theorem cW_0 {d : HD} {u b l w : Nat} (hl : l ≠ 0) (h : lst (cQ d u b l) 10 0 = some w) : cW d 0 u b l = nI w := by
  show (if l = 0 then -1 else oI (lst (cQ d u b l) 10 0)) = _
  rw [if_neg hl, h]; rfl
theorem cW_1 {d : HD} {k u b l w : Nat} (hl : l ≠ 0) (h : lst (cQ d u b l) 10 0 = some w) : cW d (k + 1) u b l = cW d k (u ||| 2 ^ w) (w + 1) (l - 1) := by
  show (if l = 0 then -1 else match lst (cQ d u b l) 10 0 with
    | none => -1
    | some w => cW d k (u ||| 2 ^ w) (w + 1) (l - 1)) = _
  rw [if_neg hl, h]
/-- there is a next word, and what it is -/
theorem cQ_some {d : HD} {u b l : Nat} (W : HW d) (X : HX d) (hu : u < 2 ^ hN d) (hb : b ≤ hN d) (hl : mM d u b = l) (h0 : l ≠ 0) : ∃ w, lst (cQ d u b l) 10 0 = some w ∧ w < hN d ∧ u.testBit w = false ∧ tb (hBw d b) w = true ∧ 1 + mM d (u ||| 2 ^ w) (w + 1) = l ∧ u ||| 2 ^ w < 2 ^ hN d := by
  have h10 := W.2.1
  have hp10 : 2 ^ hN d ≤ 2 ^ 10 := Nat.pow_le_pow_right (by decide) h10
  cases hs : lst (cQ d u b l) 10 0 with
  | none =>
    exfalso
    rcases mx_at (p := fun w => !u.testBit w && tb (hBw d b) w) (v := fun w => 1 + mM d (u ||| 2 ^ w) (w + 1)) (hN d) with h | ⟨w, w1, w2, w3⟩
    · rw [← mM_s W (by omega)] at h
      omega
    · rw [← mM_s W (by omega), hl] at w3
      have := lst_none _ _ hs w (by omega) (by omega)
      unfold cQ at this
      rw [Bool.and_eq_true] at w2
      rw [w2.1, w2.2, decide_eq_true w3] at this
      cases this
  | some w =>
    obtain ⟨l1, -, l3⟩ := lst_some _ _ _ hs
    unfold cQ at l1
    simp only [Bool.and_eq_true, Bool.not_eq_true', decide_eq_true_eq] at l1
    have hw := hBw_in W X hb (show w < 31 by omega) l1.2.1
    exact ⟨w, rfl, hw, l1.1, l1.2.1, l1.2.2, st_top ⟨hN d, by omega⟩ ⟨w, by omega⟩ hw u hu⟩
section CHAIN
variable {g : zG} {I : Nat → Nat → Int32} {P : Nat → Nat → Option Nat} {t : TD} {im : Nat → Option TD} {a : Nat} {d : HD}
theorem c_headsOf {s : Nat} (S : Sg g) (Q : Sp P) (T : HlS g P a) (W : HW d) (D : HlD I a d) (hs : s < 2 ^ hN d) (h : ∀ r, 1 ≤ r → r < s → I 86 r = bs (hH d r) (hN d)) : Cl mX10_headsOf [.ref 83, .ref a, .int (nI s)] (g, I, P) (some (.int (bs (hH d s) (hN d)))) (g, I, P) := by
  have h10 := W.2.1
  have hp10 : 2 ^ hN d ≤ 2 ^ 10 := Nat.pow_le_pow_right (by decide) h10
  have key : ∀ m w, w + m = hN d → Zt none mX10_headsOf 0 0 5 [(0, .ref 83), (1, .ref a), (2, .int (nI s)), (3, .int (bs (hH d s) w)), (4, .int (nI w))] [] (g, I, P) (some (.int (bs (hH d s) (hN d)))) (g, I, P) := by
    intro m
    induction m with
    | zero =>
      intro w hw
      obtain rfl : w = hN d := hw
      exact wX10_headsOf_5 ⟨T.1, fun _ => ⟨rfl, rfl⟩, fun q => absurd (by rw [D.2.1]; exact Int32.le_refl _) q⟩
    | succ m ih =>
      intro w hw
      have ih := ih (w + 1) (by omega)
      have eH := hH_s W (show s < 1024 by omega) (show w < hN d by omega)
      refine wX10_headsOf_5 ⟨T.1, fun q => ?_, fun _ => ⟨_, c_bit (by omega), _, c_has (by omega), ?_⟩⟩
      · rw [D.2.1] at q
        exact absurd q (nI_ge (by omega) (by omega))
      · rw [tb_N (by omega) (by omega)]
        refine zp (fun ht => ?_) (fun ht => ?_)
        · rw [ht, Bool.false_and] at eH
          rw [bs_f eH] at ih
          rw [nI_1]; exact ih
        · obtain ⟨a1, a2, a3⟩ := st_del ⟨s, by omega⟩ ⟨w, by omega⟩ ht
          simp only at a1 a2 a3
          rw [a1]
          rw [ht, Bool.true_and] at eH
          refine pk_eq (s ^^^ 2 ^ w) 0 (fun h0 => ⟨_, c_bit (by omega), ?_⟩) (fun h0 => ⟨T.1, _, c_behind T W D (by omega), S.k 83 10 (by decide), 86, Q.p 83 2 86 (by decide), _, c_got (S.k 86 13 (by decide)) (S.l 86 1024 (by decide)) (by decide) (by omega), ?_⟩)
          · rw [decide_eq_true h0, Bool.true_or] at eH
            rw [bs_t eH] at ih
            rw [nI_1]; exact ih
          · rw [decide_eq_false h0, Bool.false_or] at eH
            rw [h _ (by omega) a2]
            refine ⟨fun q => ?_, fun q => ⟨_, c_bit (by omega), ?_⟩⟩
            · rw [(and_bs (by omega)).mp q] at eH
              rw [bs_f eH] at ih
              rw [nI_1]; exact ih
            · have q2 : anyB (fun v => tb (hBeh d w) v && hH d (s ^^^ 2 ^ w) v) (hN d) = true := by
                cases hc : anyB (fun v => tb (hBeh d w) v && hH d (s ^^^ 2 ^ w) v) (hN d) with
                | true => rfl
                | false => exact absurd ((and_bs (by omega)).mpr hc) q
              rw [q2] at eH
              rw [bs_t eH] at ih
              rw [nI_1]; exact ih
  exact eX10_headsOf (wX10_headsOf_0 (key (hN d) 0 (by omega)))
def K86 (I J : Nat → Nat → Int32) : Prop := ∀ c, c ≠ 86 → J c = I c
theorem K86.p {I J : Nat → Nat → Int32} (h : K86 I J) : Kp I J := fun a ha => h a (by omega)
theorem hH_0 {k : Nat} (W : HW d) (hk : k < hN d) : hH d 0 k = false := by rw [hH_s W (by decide) hk, tB_0]; rfl
theorem c_longest (S : Sg g) (Q : Sp P) (T : HlS g P a) (W : HW d) (D : HlD I a d) (ha : a + 5 < 41) : ∃ J, Cl mX10_longestChain [.ref 83, .ref a] (g, I, P) (some (.int (nI (mM d 0 0)))) (g, J, P) ∧ K86 I J ∧ ∀ r, 1 ≤ r → r < 2 ^ hN d → J 86 r = bs (hH d r) (hN d) := by
  have h10 := W.2.1
  have hp10 : 2 ^ hN d ≤ 2 ^ 10 := Nat.pow_le_pow_right (by decide) h10
  have hp1 : 1 ≤ 2 ^ hN d := Nat.one_le_two_pow
  have mb : ∀ s, mx (fun s => anyB (hH d s) (hN d)) bt s ≤ 12 := by
    intro s
    rcases mx_at (p := fun s => anyB (hH d s) (hN d)) (v := bt) s with h | ⟨k, -, -, h⟩
    · omega
    · have := bt_lt k; omega
  have key : ∀ m s (K : Nat → Nat → Int32), s + m = 2 ^ hN d → 1 ≤ s → K86 I K → (∀ r, 1 ≤ r → r < s → K 86 r = bs (hH d r) (hN d)) → ∃ J, Zt none mX10_longestChain 0 0 4 [(0, .ref 83), (1, .ref a), (2, .int (nI (mx (fun s => anyB (hH d s) (hN d)) bt s))), (3, .int (nI s))] [] (g, K, P) (some (.int (nI (mM d 0 0)))) (g, J, P) ∧ K86 I J ∧ ∀ r, 1 ≤ r → r < 2 ^ hN d → J 86 r = bs (hH d r) (hN d) := by
    intro m
    induction m with
    | zero =>
      intro s K hs h1 hK hr
      obtain rfl : s = 2 ^ hN d := hs
      have DK : HlD K a d := D.keep (fun j hj => hK _ (by omega))
      exact ⟨K, wX10_longestChain_4 ⟨T.1, _, c_all T DK, fun _ => ⟨by rw [mM_0 W], rfl⟩, fun q => absurd (by rw [hAll_n W]; exact nI_lt (by omega) (by omega)) q⟩, hK, hr⟩
    | succ m ih =>
      intro s K hs h1 hK hr
      have DK : HlD K a d := D.keep (fun j hj => hK _ (by omega))
      obtain ⟨J, z, z2⟩ := ih (s + 1) (zU K 86 s (bs (hH d s) (hN d))) (by omega) (by omega) (fun c hc => by funext j; rw [zU_a _ _ hc, hK c hc]) (fun r r1 r2 => by
        by_cases e : r = s
        · subst e; rw [zU_s]
        · rw [zU_k _ _ e]; exact hr r r1 (by omega))
      have m1 := mb s
      have m2 := bt_lt s
      refine ⟨J, wX10_longestChain_4 ⟨T.1, _, c_all T DK, fun q => ?_, fun _ => ⟨S.k 83 10 (by decide), 86, Q.p 83 2 86 (by decide), S.k 83 10 (by decide), _, c_headsOf S Q T W DK (by omega) hr, _, c_put (S.k 86 13 (by decide)) (S.l 86 1024 (by decide)) (by decide) (by omega), S.k 83 10 (by decide), 86, Q.p 83 2 86 (by decide), _, c_got (S.k 86 13 (by decide)) (S.l 86 1024 (by decide)) (by decide) (by omega), fun q => ?_, fun q => ⟨_, c_bitCount (by omega), ?_⟩⟩⟩, z2⟩
      · rw [hAll_n W] at q
        exact absurd q (nI_nlt (by omega) (by omega))
      · rw [zU_s] at q
        rw [mx_f (p := fun s => anyB (hH d s) (hN d)) ((bs_0 (by omega)).mp q)] at z
        rw [nI_1]; exact z
      · rw [zU_s] at q
        have q2 : anyB (hH d s) (hN d) = true := by
          cases hc : anyB (hH d s) (hN d) with
          | true => rfl
          | false => exact absurd ((bs_0 (by omega)).mpr hc) q
        rw [mx_t (p := fun s => anyB (hH d s) (hN d)) q2] at z
        rw [zmmax_n (by omega) (by omega), nI_1]; exact z
  have e0 : mx (fun s => anyB (hH d s) (hN d)) bt 1 = 0 := mx_f (p := fun s => anyB (hH d s) (hN d)) (w := 0) (anyB_f (fun k hk => hH_0 W hk))
  obtain ⟨J, z, z2⟩ := key (2 ^ hN d - 1) 1 I (by omega) (Nat.le_refl _) (fun _ _ => rfl) (fun r r1 r2 => by omega)
  rw [e0] at z
  exact ⟨J, eX10_longestChain (wX10_longestChain_0 z), z2⟩
def hwo (d : HD) (u n k t : Nat) : Bool := decide (t &&& u = 0) && (decide (bt t = n) && hH d t k)
theorem c_headsWithout {u n : Nat} (S : Sg g) (Q : Sp P) (T : HlS g P a) (W : HW d) (D : HlD I a d) (hu : u < 2 ^ hN d) (hn : n < 2 ^ 31) (h : ∀ r, 1 ≤ r → r < 2 ^ hN d → I 86 r = bs (hH d r) (hN d)) : ∃ B : Int32, Cl mX10_headsWithout [.ref 83, .ref a, .int (nI u), .int (nI n)] (g, I, P) (some (.int B)) (g, I, P) ∧ ∀ k, k < 32 → tb B k = (decide (k < hN d) && anyB (hwo d u n k) (2 ^ hN d)) := by
  have h10 := W.2.1
  have hp10 : 2 ^ hN d ≤ 2 ^ 10 := Nat.pow_le_pow_right (by decide) h10
  have hp1 : 1 ≤ 2 ^ hN d := Nat.one_le_two_pow
  have key : ∀ m s (A : Int32), s + m = 2 ^ hN d → 1 ≤ s → (∀ k, k < 32 → tb A k = (decide (k < hN d) && anyB (hwo d u n k) s)) → ∃ B : Int32, Zt none mX10_headsWithout 0 0 6 [(0, .ref 83), (1, .ref a), (2, .int (nI u)), (3, .int (nI n)), (4, .int A), (5, .int (nI s))] [] (g, I, P) (some (.int B)) (g, I, P) ∧ ∀ k, k < 32 → tb B k = (decide (k < hN d) && anyB (hwo d u n k) (2 ^ hN d)) := by
    intro m
    induction m with
    | zero =>
      intro s A hs h1 hA
      obtain rfl : s = 2 ^ hN d := hs
      exact ⟨A, wX10_headsWithout_6 ⟨T.1, _, c_all T D, fun _ => ⟨rfl, rfl⟩, fun q => absurd (by rw [hAll_n W]; exact nI_lt (by omega) (by omega)) q⟩, hA⟩
    | succ m ih =>
      intro s A hs h1 hA
      have na : ¬ hAll d < nI s := by rw [hAll_n W]; exact nI_nlt (by omega) (by omega)
      have hb := bt_lt s
      have e : ∀ k, anyB (hwo d u n k) (s + 1) = (anyB (hwo d u n k) s || hwo d u n k s) := fun k => rfl
      have ea : nI s &&& nI u = nI (s &&& u) := nI_and (by omega) (by omega)
      have hle := Nat.and_le_left (n := s) (m := u)
      by_cases c1 : s &&& u = 0
      · by_cases c2 : bt s = n
        · obtain ⟨B, z, z2⟩ := ih (s + 1) (A ||| bs (hH d s) (hN d)) (by omega) (by omega) (fun k hk => by
            rw [tb_or hk, hA k hk, tb_bs (by omega) hk, e k]
            unfold hwo
            rw [decide_eq_true c1, decide_eq_true c2, Bool.true_and, Bool.true_and]
            cases decide (k < hN d) <;> rfl)
          refine ⟨B, wX10_headsWithout_6 ⟨T.1, _, c_all T D, fun q => absurd q na, fun _ => ⟨fun q => absurd (by rw [ea, c1]; rfl) q, fun _ => ⟨_, c_bitCount (by omega), fun q => absurd (by rw [c2]) q, fun _ => ⟨S.k 83 10 (by decide), 86, Q.p 83 2 86 (by decide), _, c_got (S.k 86 13 (by decide)) (S.l 86 1024 (by decide)) (by decide) (by omega), ?_⟩⟩⟩⟩, z2⟩
          rw [h s h1 (by omega), nI_1]; exact z
        · obtain ⟨B, z, z2⟩ := ih (s + 1) A (by omega) (by omega) (fun k hk => by
            rw [hA k hk, e k]
            unfold hwo
            rw [decide_eq_false c2, Bool.false_and, Bool.and_false, Bool.or_false])
          exact ⟨B, wX10_headsWithout_6 ⟨T.1, _, c_all T D, fun q => absurd q na, fun _ => ⟨fun q => absurd (by rw [ea, c1]; rfl) q, fun _ => ⟨_, c_bitCount (by omega), fun _ => by rw [nI_1]; exact z, fun q => absurd ((nI_eq (by omega) hn).mp q) c2⟩⟩⟩, z2⟩
      · obtain ⟨B, z, z2⟩ := ih (s + 1) A (by omega) (by omega) (fun k hk => by
          rw [hA k hk, e k]
          unfold hwo
          rw [decide_eq_false c1, Bool.false_and, Bool.or_false])
        exact ⟨B, wX10_headsWithout_6 ⟨T.1, _, c_all T D, fun q => absurd q na, fun _ => ⟨fun _ => by rw [nI_1]; exact z, fun q => by rw [ea] at q; exact absurd ((nI_eq (b := 0) (by omega) (by decide)).mp q) c1⟩⟩, z2⟩
  obtain ⟨B, z, z2⟩ := key (2 ^ hN d - 1) 1 0 (by omega) (Nat.le_refl _) (fun k hk => by
    rw [tb_0 hk]
    by_cases hkN : k < hN d
    · show false = (decide (k < hN d) && (false || hwo d u n k 0))
      unfold hwo
      rw [hH_0 W hkN, Bool.and_false, Bool.and_false, Bool.or_false, Bool.and_false]
    · rw [decide_eq_false hkN, Bool.false_and])
  exact ⟨B, eX10_headsWithout (wX10_headsWithout_0 z), z2⟩
theorem c_lowest {s : Int32} : Cl mX11_lowest [.int s] (g, I, P) (some (.int (oI (lst (tb s) 31 0)))) (g, I, P) := by
  have key : ∀ m k, k + m = 31 → Zt none mX11_lowest 0 0 2 [(0, .int s), (1, .int (nI k))] [] (g, I, P) (some (.int (oI (lst (tb s) m k)))) (g, I, P) := by
    intro m
    induction m with
    | zero =>
      intro k hk
      obtain rfl : k = 31 := hk
      exact wX11_lowest_2 ⟨fun _ => ⟨rfl, rfl⟩, fun q => absurd (by decide) q⟩
    | succ m ih =>
      intro k hk
      refine wX11_lowest_2 ⟨fun q => absurd q (nI_ge (b := 31) (by omega) (by decide)), fun _ => ⟨_, c_has (by omega), zp (fun h => ?_) (fun h => ⟨?_, rfl⟩)⟩⟩
      · rw [lst_f h, nI_1]; exact ih (k + 1) (by omega)
      · rw [lst_t h]; rfl
  exact eX11_lowest (wX11_lowest_0 (key 31 0 rfl))
theorem c_firstChain {x : Int32} (S : Sg g) (Q : Sp P) (T : HlS g P a) (W : HW d) (X : HX d) (D : HlD I a d) (h : ∀ r, 1 ≤ r → r < 2 ^ hN d → I 86 r = bs (hH d r) (hN d)) : Cl mX10_wordOfFirstChain [.ref 83, .ref a, .int (nI (mM d 0 0)), .int x] (g, I, P) (some (.int (if x < 0 then -1 else cW d x.toNatClampNeg 0 0 (mM d 0 0)))) (g, I, P) := by
  have h10 := W.2.1
  have hp10 : 2 ^ hN d ≤ 2 ^ 10 := Nat.pow_le_pow_right (by decide) h10
  have hL := mM_le d 0 0
  refine eX10_wordOfFirstChain (wX10_wordOfFirstChain_0 ?_)
  by_cases hx : x < 0
  · rw [if_pos hx]
    have hxl : ¬ nI (mM d 0 0) ≤ x := Int32.not_le.mpr (Int32.lt_of_lt_of_le hx (nI_pos' (by omega)))
    exact wX10_wordOfFirstChain_9 ⟨fun _ => ⟨fun q => absurd q hxl, fun _ => ⟨rfl, rfl⟩⟩, fun q => absurd hx q⟩
  · obtain ⟨k, hk, rfl⟩ := nI_of hx
    rw [if_neg hx, nI_clamp hk]
    generalize hL0 : mM d 0 0 = L at hL ⊢
    have key : ∀ m i u b, i + m = L → i ≤ k → u < 2 ^ hN d → b ≤ hN d → mM d u b = L - i → Zt none mX10_wordOfFirstChain 0 0 9 [(0, .ref 83), (1, .ref a), (2, .int (nI L)), (3, .int (nI k)), (4, .int (nI u)), (5, .int (bI b)), (6, .int (nI i))] [] (g, I, P) (some (.int (cW d (k - i) u b (L - i)))) (g, I, P) := by
      intro m
      induction m with
      | zero =>
        intro i u b hi hik hu hb hM
        obtain rfl : i = L := hi
        rw [Nat.sub_self, cW_z]
        exact wX10_wordOfFirstChain_9 ⟨fun q => absurd q (nI_nlt hik hk), fun _ => ⟨fun _ => ⟨fun _ => ⟨rfl, rfl⟩, fun q => absurd (nI_le hik hk) q⟩, fun q => absurd (Int32.le_refl _) q⟩⟩
      | succ m ih =>
        intro i u b hi hik hu hb hM
        obtain ⟨w, q1, q2, q3, q4, q5, q6⟩ := cQ_some W X hu hb hM (by omega)
        obtain ⟨B, zB, hB⟩ := c_headsWithout (n := L - i) S Q T W D hu (by omega) h
        have el : lst (tb ((hBw d b &&& (nI u ^^^ (-1))) &&& B)) 31 0 = some w := by
          rw [← q1]
          have tbk : ∀ j, j < 31 → tb ((hBw d b &&& (nI u ^^^ (-1))) &&& B) j = cQ d u b (L - i) j := by
            intro j hj
            have hm1 := tb_m1 ⟨j, by omega⟩
            simp only at hm1
            rw [tb_and (by omega), tb_and (by omega), tb_xor (by omega), hB j (by omega), tb_N (by omega) (by omega), hm1]
            unfold cQ
            cases c1 : tb (hBw d b) j with
            | false => rw [Bool.false_and, Bool.false_and, Bool.false_and, Bool.and_false]
            | true =>
              have hj2 := hBw_in W X hb hj c1
              cases c2 : u.testBit j with
              | true => rfl
              | false =>
                rw [decide_eq_true hj2]
                have nx := mM_next (w := j) W hu (by omega) hj2 c1 c2
                rw [hM] at nx
                show (anyB (hwo d u (L - i) j) (2 ^ hN d)) = decide (1 + mM d (u ||| 2 ^ j) (j + 1) = L - i)
                by_cases c3 : 1 + mM d (u ||| 2 ^ j) (j + 1) = L - i
                · obtain ⟨s, s1, s2, s3, s4⟩ := nx.mpr c3
                  rw [decide_eq_true c3]
                  exact anyB_t _ s s1 (by unfold hwo; rw [decide_eq_true (dj_and.mpr s2), decide_eq_true s3, s4]; rfl)
                · rw [decide_eq_false c3]
                  apply anyB_f
                  intro s hs
                  cases c4 : hwo d u (L - i) j s with
                  | false => rfl
                  | true =>
                    exfalso
                    unfold hwo at c4
                    simp only [Bool.and_eq_true, decide_eq_true_eq] at c4
                    exact c3 (nx.mp ⟨s, hs, dj_and.mp c4.1, c4.2.1, c4.2.2⟩)
          rw [show (31 : Nat) = 10 + 21 from rfl, lst_ext 10 21 0 (fun j j1 j2 => by
            rw [tbk j (by omega)]
            unfold cQ
            cases c1 : tb (hBw d b) j with
            | false => rw [Bool.false_and, Bool.and_false]
            | true => have := hBw_in W X hb (show j < 31 by omega) c1; omega)]
          exact lst_congr 10 0 (fun j j1 j2 => tbk j (by omega))
        have cl := c_lowest (g := g) (I := I) (P := P) (s := (hBw d b &&& (nI u ^^^ (-1))) &&& B)
        rw [el] at cl
        have eo := (st_or ⟨u, by omega⟩ ⟨w, by omega⟩).1
        simp only at eo
        refine wX10_wordOfFirstChain_9 ⟨fun q => absurd q (nI_nlt hik hk), fun _ => ⟨fun q => absurd q (nI_ge (by omega) (by omega)), fun _ => ⟨T.1, _, c_behindA T W D hb, S.k 83 10 (by decide), _, by rw [pk_sub (by omega)]; exact zB, _, cl, _, c_bit (k := w) (by omega), ?_⟩⟩⟩
        rw [eo, nI_1]
        by_cases he : i = k
        · subst he
          rw [Nat.sub_self, cW_0 (by omega) q1]
          exact wX10_wordOfFirstChain_9 ⟨fun _ => ⟨fun q => absurd q (nI_ge (by omega) (by omega)), fun _ => ⟨rfl, rfl⟩⟩, fun q => absurd (nI_lt (by omega) (by omega)) q⟩
        · have nx := ih (i + 1) (u ||| 2 ^ w) (w + 1) (by omega) (by omega) q6 (by omega) (by omega)
          rw [show k - i = (k - (i + 1)) + 1 by omega, cW_1 (by omega) q1, show L - i - 1 = L - (i + 1) by omega]
          exact nx
    exact key L 0 0 0 (by omega) (by omega) (Nat.two_pow_pos _) (by omega) hL0
theorem r_behindB {h0 b : Nat} (S : Sg g) (Q : Sp P) (W : HW d) (D : MhD I h0 d) (hb : b ≤ hN d) : Cl mX12_behind [.ref 95, .int (bI b)] (g, I, P) (some (.int (hBw d b))) (g, I, P) := by
  rw [bI_n]; exact r_behindA S Q W D hb
theorem r_bestBehind {h0 s b : Nat} (S : Sg g) (Q : Sp P) (W : HW d) (D : MhD I h0 d) (hs : s < 2 ^ hN d) (hb : b ≤ hN d) (h : ∀ r w, s < r → r < 2 ^ hN d → w < hN d → I 111 (10 * r + w) = nI (mM d r (w + 1))) : Cl mX12_bestBehind [.ref 95, .int (nI s), .int (bI b)] (g, I, P) (some (.int (nI (mM d s b)))) (g, I, P) := by
  have h10 := W.2.1
  have hp10 : 2 ^ hN d ≤ 2 ^ 10 := Nat.pow_le_pow_right (by decide) h10
  rw [mM_s W (by omega)]
  have mb : ∀ w, mx (fun w => !s.testBit w && tb (hBw d b) w) (fun w => 1 + mM d (s ||| 2 ^ w) (w + 1)) w ≤ 1025 := by
    intro w
    rcases mx_at (p := fun w => !s.testBit w && tb (hBw d b) w) (v := fun w => 1 + mM d (s ||| 2 ^ w) (w + 1)) w with h | ⟨k, -, -, h⟩
    · omega
    · have := mM_le d (s ||| 2 ^ k) (k + 1); omega
  have key : ∀ m w, w + m = hN d → Zt none mX12_bestBehind 0 0 5 [(0, .ref 95), (1, .int (nI s)), (2, .int (bI b)), (3, .int (nI (mx (fun w => !s.testBit w && tb (hBw d b) w) (fun w => 1 + mM d (s ||| 2 ^ w) (w + 1)) w))), (4, .int (nI w))] [] (g, I, P) (some (.int (nI (mx (fun w => !s.testBit w && tb (hBw d b) w) (fun w => 1 + mM d (s ||| 2 ^ w) (w + 1)) (hN d))))) (g, I, P) := by
    intro m
    induction m with
    | zero =>
      intro w hw
      obtain rfl : w = hN d := hw
      exact wX12_bestBehind_5 ⟨S.k 95 12 (by decide), fun _ => ⟨rfl, rfl⟩, fun q => absurd (by rw [D.2.2.2.1]; exact Int32.le_refl _) q⟩
    | succ m ih =>
      intro w hw
      have ih := ih (w + 1) (by omega)
      have m1 := mb w
      have no : (!s.testBit w && tb (hBw d b) w) = false → Zt none mX12_bestBehind 0 0 5 [(0, .ref 95), (1, .int (nI s)), (2, .int (bI b)), (3, .int (nI (mx (fun w => !s.testBit w && tb (hBw d b) w) (fun w => 1 + mM d (s ||| 2 ^ w) (w + 1)) w))), (4, .int (nI w + 1))] [] (g, I, P) (some (.int (nI (mx (fun w => !s.testBit w && tb (hBw d b) w) (fun w => 1 + mM d (s ||| 2 ^ w) (w + 1)) (hN d))))) (g, I, P) := by
        intro h
        rw [mx_f (p := fun w => !s.testBit w && tb (hBw d b) w) h] at ih
        rw [nI_1]; exact ih
      refine wX12_bestBehind_5 ⟨S.k 95 12 (by decide), fun q => ?_, fun _ => ⟨_, r_holds, ?_⟩⟩
      · rw [D.2.2.2.1] at q
        exact absurd q (nI_ge (by omega) (by omega))
      · rw [tb_N (by omega) (by omega)]
        refine zq (fun ht => no (by rw [ht]; rfl)) (fun ht => ⟨S.k 95 12 (by decide), _, r_behindB S Q W D hb, _, r_holds, zp (fun hq => no (by rw [hq, Bool.and_false])) (fun hq => ?_)⟩)
        rw [mx_t (p := fun w => !s.testBit w && tb (hBw d b) w) (by simp only [ht, hq]; rfl)] at ih
        have eo := (st_or ⟨s, by omega⟩ ⟨w, by omega⟩)
        have ea := (st_add ⟨s, by omega⟩ ⟨w, by omega⟩ ht).1
        have et := st_top ⟨hN d, by omega⟩ ⟨w, by omega⟩ (by show w < hN d; omega) s hs
        simp only at eo ea et
        obtain ⟨v1, v2⟩ := ix (x := 10 * (nI s ||| (1 : Int32) <<< (nI w &&& 31)) + nI w) (k := 10 * (s ||| 2 ^ w) + w) (N := 10240) (by rw [eo.1, show (10 : Int32) = nI 10 from rfl, pk_mul, nI_add]) (by omega) (by decide)
        have ml := mM_le d (s ||| 2 ^ w) (w + 1)
        have ev : (1 : Int32) + I 111 (10 * (nI s ||| (1 : Int32) <<< (nI w &&& 31)) + nI w).toNatClampNeg = nI (1 + mM d (s ||| 2 ^ w) (w + 1)) := by
          rw [v2, h _ w ea et (by omega)]
          show nI 1 + _ = _
          rw [nI_add]
        refine ⟨S.k 95 12 (by decide), 111, Q.p 95 34 111 (by decide), S.k 111 13 (by decide), by rw [S.l 111 10240 (by decide)]; exact v1, ?_⟩
        refine pk_le (1 + mM d (s ||| 2 ^ w) (w + 1)) (mx (fun w => !s.testBit w && tb (hBw d b) w) (fun w => 1 + mM d (s ||| 2 ^ w) (w + 1)) w) (fun hc => ?_) (fun hc => ⟨S.k 95 12 (by decide), 111, Q.p 95 34 111 (by decide), S.k 111 13 (by decide), by rw [S.l 111 10240 (by decide)]; exact v1, fun y hy => ?_⟩) ev rfl
        · rw [Nat.max_eq_left hc] at ih
          rw [nI_1]; exact ih
        · rw [Nat.max_eq_right (by omega)] at ih
          rw [hy, ev, nI_1]; exact ih
  exact eX12_bestBehind (wX12_bestBehind_0 (key (hN d) 0 (by omega)))
def Ko (I J : Nat → Nat → Int32) : Prop := ∀ c, c ≠ 111 → J c = I c
theorem Ko.m {I J : Nat → Nat → Int32} (h : Ko I J) : Km I J := fun c hc => h c (by omega)
theorem Ko.u {I J : Nat → Nat → Int32} (h : Ko I J) (k : Nat) (x : Int32) : Ko I (zU J 111 k x) := fun c hc => by funext j; rw [zU_a _ _ hc, h c hc]
theorem Ko.h {I J : Nat → Nat → Int32} {h0 : Nat} (h : Ko I J) (D : MhD I h0 d) : MhD J h0 d := D.keep (h 95 (by decide)) (h 96 (by decide))
theorem r_firstChain {h0 k : Nat} (S : Sg g) (Q : Sp P) (W : HW d) (X : HX d) (D : MhD I h0 d) (hk : k < 2 ^ 31) (h : ∀ r w, 0 < r → r < 2 ^ hN d → w < hN d → I 111 (10 * r + w) = nI (mM d r (w + 1))) : Zt none mX12_chain 0 0 90 [(0, .ref 95), (2, .int (nI k)), (3, .int (nI (mM d 0 0))), (4, .int 0), (5, .int (-1)), (6, .int 0)] [] (g, I, P) (some (.int (cW d k 0 0 (mM d 0 0)))) (g, I, P) := by
  have h10 := W.2.1
  have hp10 : 2 ^ hN d ≤ 2 ^ 10 := Nat.pow_le_pow_right (by decide) h10
  have hL := mM_le d 0 0
  generalize hL0 : mM d 0 0 = L at hL ⊢
  have key : ∀ m i u b, i + m = L → i ≤ k → u < 2 ^ hN d → b ≤ hN d → mM d u b = m → Zt none mX12_chain 0 0 90 [(0, .ref 95), (2, .int (nI k)), (3, .int (nI m)), (4, .int (nI u)), (5, .int (bI b)), (6, .int (nI i))] [] (g, I, P) (some (.int (cW d (k - i) u b m))) (g, I, P) := by
    intro m
    induction m with
    | zero =>
      intro i u b hi hik hu hb hM
      rw [cW_z]
      exact wX12_chain_90 ⟨fun _ => ⟨rfl, rfl⟩, fun q => absurd (by decide) q⟩
    | succ m ih =>
      intro i u b hi hik hu hb hM
      obtain ⟨v, q1, q2, q3, q4, q5, q6⟩ := cQ_some W X hu hb hM (by omega)
      refine wX12_chain_90 ⟨fun q => absurd q (nI_ge (a := 0) (by omega) (by omega)), fun _ => ?_⟩
      have walk : ∀ n w, w + n = 10 → lst (cQ d u b (m + 1)) n w = some v → Zt none mX12_chain 0 0 97 [(0, .ref 95), (2, .int (nI k)), (3, .int (nI (m + 1))), (4, .int (nI u)), (5, .int (bI b)), (6, .int (nI i)), (7, .int (nI w))] [] (g, I, P) (some (.int (cW d (k - i) u b (m + 1)))) (g, I, P) := by
        intro n
        induction n with
        | zero => intro w _ hl; cases hl
        | succ n ihw =>
          intro w hw hl
          have nx : cQ d u b (m + 1) w = false → Zt none mX12_chain 0 0 97 [(0, .ref 95), (2, .int (nI k)), (3, .int (nI (m + 1))), (4, .int (nI u)), (5, .int (bI b)), (6, .int (nI i)), (7, .int (nI w + 1))] [] (g, I, P) (some (.int (cW d (k - i) u b (m + 1)))) (g, I, P) := by
            intro hq
            rw [lst_f hq] at hl
            rw [nI_1]; exact ihw (w + 1) (by omega) hl
          refine wX12_chain_97 ⟨_, r_holds, ?_⟩
          rw [tb_N (by omega) (by omega)]
          refine zq (fun ht => nx (by unfold cQ; rw [ht]; rfl)) (fun ht => ⟨S.k 95 12 (by decide), _, r_behindB S Q W D hb, _, r_holds, zp (fun hq => nx (by unfold cQ; rw [hq, Bool.false_and, Bool.and_false])) (fun hq => ?_)⟩)
          have hwd := hBw_in W X hb (show w < 31 by omega) hq
          have eo := (st_or ⟨u, by omega⟩ ⟨w, by omega⟩)
          have ea := (st_add ⟨u, by omega⟩ ⟨w, by omega⟩ ht).1
          have et := st_top ⟨hN d, by omega⟩ ⟨w, by omega⟩ hwd u hu
          simp only at eo ea et
          obtain ⟨v1, v2⟩ := ix (x := 10 * (nI u ||| (1 : Int32) <<< (nI w &&& 31)) + nI w) (k := 10 * (u ||| 2 ^ w) + w) (N := 10240) (by rw [eo.1, show (10 : Int32) = nI 10 from rfl, pk_mul, nI_add]) (by omega) (by decide)
          have ml := mM_le d (u ||| 2 ^ w) (w + 1)
          have ev : (1 : Int32) + I 111 (10 * (nI u ||| (1 : Int32) <<< (nI w &&& 31)) + nI w).toNatClampNeg = nI (1 + mM d (u ||| 2 ^ w) (w + 1)) := by
            rw [v2, h _ w (by omega) et hwd]
            show nI 1 + _ = _
            rw [nI_add]
          refine ⟨S.k 95 12 (by decide), 111, Q.p 95 34 111 (by decide), S.k 111 13 (by decide), by rw [S.l 111 10240 (by decide)]; exact v1, ?_⟩
          refine pk_eq (1 + mM d (u ||| 2 ^ w) (w + 1)) (m + 1) (fun he => ?_) (fun he => nx (by unfold cQ; rw [decide_eq_false he, Bool.and_false, Bool.and_false])) ev rfl
          have hc : cQ d u b (m + 1) w = true := by unfold cQ; rw [ht, hq, decide_eq_true he]; rfl
          rw [lst_t hc] at hl
          obtain rfl : w = v := Option.some.inj hl
          refine pq_eq i k (fun hki y hy => ?_) (fun hki => ⟨?_, rfl⟩)
          · rw [hy, eo.1, nI_a1, nI_d1, nI_1, show k - i = (k - (i + 1)) + 1 by omega, cW_1 (by omega) q1]
            exact ih (i + 1) (u ||| 2 ^ w) (w + 1) (by omega) (by omega) et (by omega) (by omega)
          · rw [hki, Nat.sub_self, cW_0 (by omega) q1]
      exact walk 10 0 rfl q1
  exact key L 0 0 0 (by omega) (by omega) (Nat.two_pow_pos _) (by omega) hL0
theorem r_chain {h0 : Nat} {x w : Int32} (S : Sg g) (Q : Sp P) (W : HW d) (X : HX d) (D : MhD I h0 d) (h1 : x = -1 → w = nI (mM d 0 0)) (h2 : ¬ x = -1 → ¬ x < 0 ∧ w = cW d x.toNatClampNeg 0 0 (mM d 0 0)) : ∃ J, Zt none mX12_chain 0 0 20 [(0, .ref 95), (2, .int x), (3, .int (hAll d))] [] (g, I, P) (some (.int w)) (g, J, P) ∧ Ko I J := by
  have h10 := W.2.1
  have hp10 : 2 ^ hN d ≤ 2 ^ 10 := Nat.pow_le_pow_right (by decide) h10
  have hp1 : 1 ≤ 2 ^ hN d := Nat.one_le_two_pow
  rw [hAll_n W]
  have key : ∀ s (K : Nat → Nat → Int32), s < 2 ^ hN d → Ko I K → (∀ r w, s < r → r < 2 ^ hN d → w < hN d → K 111 (10 * r + w) = nI (mM d r (w + 1))) → ∃ J, Zt none mX12_chain 0 0 20 [(0, .ref 95), (2, .int x), (3, .int (nI s))] [] (g, K, P) (some (.int w)) (g, J, P) ∧ Ko I J := by
    intro s
    induction s with
    | zero =>
      intro K hs hK hr
      have DK := hK.h D
      refine ⟨K, wX12_chain_20 ⟨fun _ => ⟨S.k 95 12 (by decide), _, r_bestBehind (s := 0) (b := 0) S Q W DK hs (by omega) hr, fun q => ?_, fun q => ⟨by rw [h1 q], rfl⟩⟩, fun q => absurd (by decide) q⟩, hK⟩
      obtain ⟨a1, a2⟩ := h2 q
      obtain ⟨k, hk, rfl⟩ := nI_of a1
      rw [a2, nI_clamp hk]
      exact r_firstChain S Q W X DK hk hr
    | succ s ih =>
      intro K hs hK hr
      have inner : ∀ m v (K : Nat → Nat → Int32), v + m = hN d → Ko I K → (∀ r w, s + 1 < r → r < 2 ^ hN d → w < hN d → K 111 (10 * r + w) = nI (mM d r (w + 1))) → (∀ w, w < v → K 111 (10 * (s + 1) + w) = nI (mM d (s + 1) (w + 1))) → ∃ J, Zt none mX12_chain 0 0 27 [(0, .ref 95), (2, .int x), (3, .int (nI (s + 1))), (4, .int (nI v))] [] (g, K, P) (some (.int w)) (g, J, P) ∧ Ko I J := by
        intro m
        induction m with
        | zero =>
          intro v K hv hK a1 a2
          obtain rfl : v = hN d := hv
          obtain ⟨J, z, z2⟩ := ih K (by omega) hK (fun r w r1 r2 r3 => by
            by_cases e : r = s + 1
            · subst e; exact a2 w r3
            · exact a1 r w (by omega) r2 r3)
          exact ⟨J, wX12_chain_27 ⟨S.k 95 12 (by decide), fun _ => by rw [nI_a1, nI_d1]; exact z, fun q => absurd (by rw [(hK.h D).2.2.2.1]; exact Int32.le_refl _) q⟩, z2⟩
        | succ m ihv =>
          intro v K hv hK a1 a2
          have DK := hK.h D
          obtain ⟨v1, v2⟩ := ix (x := 10 * nI (s + 1) + nI v) (k := 10 * (s + 1) + v) (N := 10240) (by rw [show (10 : Int32) = nI 10 from rfl, pk_mul, nI_add]) (by omega) (by decide)
          obtain ⟨J, z, z2⟩ := ihv (v + 1) (zU K 111 (10 * (s + 1) + v) (nI (mM d (s + 1) (v + 1)))) (by omega) (hK.u _ _) (fun r w r1 r2 r3 => by rw [zU_k _ _ (by omega)]; exact a1 r w r1 r2 r3) (fun w hw => by
            by_cases e : w = v
            · subst e; rw [zU_s]
            · rw [zU_k _ _ (by omega)]; exact a2 w (by omega))
          refine ⟨J, wX12_chain_27 ⟨S.k 95 12 (by decide), fun q => ?_, fun _ => ⟨S.k 95 12 (by decide), 111, Q.p 95 34 111 (by decide), S.k 95 12 (by decide), _, r_bestBehind (s := s + 1) (b := v + 1) S Q W DK hs (by omega) a1, S.k 111 13 (by decide), by rw [S.l 111 10240 (by decide)]; exact v1, by rw [v2, nI_1]; exact z⟩⟩, z2⟩
          rw [DK.2.2.2.1] at q
          exact absurd q (nI_ge (by omega) (by omega))
      obtain ⟨J, z, z2⟩ := inner (hN d) 0 K (by omega) hK hr (fun w hw => by omega)
      exact ⟨J, wX12_chain_20 ⟨fun q => absurd q (nI_ge (a := 0) (by omega) (by omega)), fun _ => z⟩, z2⟩
  exact key (2 ^ hN d - 1) I (by omega) (fun _ _ => rfl) (fun r w r1 r2 => by omega)
theorem b_chain (L : LI g I P t im) (x1 x2 : Int32) : ∃ (w : Int32) (I1 : Nat → Nat → Int32) (J : Nat → Nat → Int32), Cl mX11_chain [.ref 0, .int x1, .int x2] (g, I, P) (some (.int w)) (g, I1, P) ∧ Kp I I1 ∧ Cl mX12_chain [.ref 95, .int x1, .int x2] (g, I1, P) (some (.int w)) (g, J, P) ∧ Km I1 J := by
  have L0 := L
  obtain ⟨S, Q, W, D, M, -⟩ := L
  have n2 := W.2.1.1
  cases hp : pk x1 (tNh t) with
  | none => exact ⟨-1, I, I, eX11_chain (wX11_chain_0 ⟨S.k 0 11 (by decide), 1, Q.p 0 0 1 (by decide), S.k 1 9 (by decide), _, c_hillN L0 hp, fun _ => ⟨rfl, rfl⟩, fun b hb => (nomatch hb)⟩), Kp.rf I, eX12_chain (wX12_chain_0 ⟨S.k 95 12 (by decide), _, _, r_isHill0 S Q W M hp, fun _ => ⟨rfl, rfl⟩, fun q => absurd rfl q⟩), Km.rf I⟩
  | some i =>
    have hi : i < tNh t := (pk_some (by omega) hp).1
    obtain ⟨hW, hX⟩ := W.2.1.2 i hi
    have T := HlS_i S Q (i := i) (by omega)
    have D1 : HlD I (8 + 16 * i) (tH t i) := D.2.2.1 i hi
    obtain ⟨I1, zl, kl, hl⟩ := c_longest S Q T hW D1 (by omega)
    have DK : HlD I1 (8 + 16 * i) (tH t i) := D1.keep (fun j hj => kl _ (by omega))
    obtain ⟨J1, z, E, f, -⟩ := r_isHill S Q W (M.keep (kl 96 (by decide))) hp
    have cf := c_firstChain (x := x2) S Q T hW hX DK hl
    have cc : ∀ w, (x2 = -1 → w = nI (mM (tH t i) 0 0)) → (¬ x2 = -1 → w = if x2 < 0 then -1 else cW (tH t i) x2.toNatClampNeg 0 0 (mM (tH t i) 0 0)) → Cl mX11_chain [.ref 0, .int x1, .int x2] (g, I, P) (some (.int w)) (g, I1, P) := by
      intro w w1 w2
      refine eX11_chain (wX11_chain_0 ⟨S.k 0 11 (by decide), 1, Q.p 0 0 1 (by decide), S.k 1 9 (by decide), _, c_hillY L0 hp, fun q => (nomatch q), fun b hb => ?_⟩)
      cases hb
      exact ⟨S.k 0 11 (by decide), 83, Q.p 0 5 83 (by decide), S.k 83 10 (by decide), _, _, zl, fun q => ⟨S.k 0 11 (by decide), 83, Q.p 0 5 83 (by decide), S.k 83 10 (by decide), _, cf, by rw [w2 q], rfl⟩, fun q => ⟨by rw [w1 q], rfl⟩⟩
    by_cases h4 : x2 = -1
    · obtain ⟨J, zr, kr⟩ := r_chain (x := x2) (w := nI (mM (tH t i) 0 0)) S Q hW hX E (fun _ => rfl) (fun q => absurd h4 q)
      exact ⟨_, I1, J, cc _ (fun _ => rfl) (fun q => absurd h4 q), kl.p, eX12_chain (wX12_chain_0 ⟨S.k 95 12 (by decide), _, _, z, fun q => absurd q (by decide), fun _ => ⟨fun _ => ⟨S.k 95 12 (by decide), _, r_all S E, zr⟩, fun q => absurd (by rw [h4]; decide) q⟩⟩), f.m.tr kr.m⟩
    · by_cases hx : x2 < 0
      · have hlt : ¬ (-1 : Int32) ≤ x2 := fun h => by
          rw [Int32.le_iff_toInt_le] at h
          rw [Int32.lt_iff_toInt_lt] at hx
          rw [show (-1 : Int32).toInt = -1 from rfl] at h
          rw [show (0 : Int32).toInt = 0 from rfl] at hx
          exact h4 (Int32.toInt_inj.mp (by rw [show (-1 : Int32).toInt = -1 from rfl]; omega))
        exact ⟨-1, I1, J1, cc _ (fun q => absurd q h4) (fun _ => by rw [if_pos hx]), kl.p, eX12_chain (wX12_chain_0 ⟨S.k 95 12 (by decide), _, _, z, fun q => absurd q (by decide), fun _ => ⟨fun q => absurd q hlt, fun _ => ⟨rfl, rfl⟩⟩⟩), f.m⟩
      · obtain ⟨J, zr, kr⟩ := r_chain (x := x2) (w := cW (tH t i) x2.toNatClampNeg 0 0 (mM (tH t i) 0 0)) S Q hW hX E (fun q => absurd q h4) (fun _ => ⟨hx, rfl⟩)
        have hle : (-1 : Int32) ≤ x2 := Int32.le_trans (by decide) (Int32.not_lt.mp hx)
        exact ⟨_, I1, J, cc _ (fun q => absurd q h4) (fun _ => by rw [if_neg hx]), kl.p, eX12_chain (wX12_chain_0 ⟨S.k 95 12 (by decide), _, _, z, fun q => absurd q (by decide), fun _ => ⟨fun _ => ⟨S.k 95 12 (by decide), _, r_all S E, zr⟩, fun q => absurd hle q⟩⟩), f.m.tr kr.m⟩
end CHAIN
