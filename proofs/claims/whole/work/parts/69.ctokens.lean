/-! ===== the class's tokens ===== -/
/-- the tape as the class's Tokens and Reader see it -/
def TpC (I : Nat → Nat → Int32) (P : Nat → Nat → Option Nat) (T : Tp) : Prop := P 58 0 = some 2 ∧ P 41 7 = some 2 ∧ T.1 ≤ 600 ∧ I 58 1 = nI T.1 ∧ ∀ k, k < T.1 → I 2 k = nI (T.2 k) ∧ T.2 k < 256
/-- only the tokens' fields behind the length have changed -/
def K58 (I J : Nat → Nat → Int32) : Prop := (∀ c, c ≠ 58 → J c = I c) ∧ J 58 1 = I 58 1
theorem K58.rf (I : Nat → Nat → Int32) : K58 I I := ⟨fun _ _ => rfl, rfl⟩
theorem K58.tr {I J K : Nat → Nat → Int32} (h : K58 I J) (h2 : K58 J K) : K58 I K := ⟨fun c a1 => (h2.1 c a1).trans (h.1 c a1), h2.2.trans h.2⟩
theorem K58.u {I J : Nat → Nat → Int32} (h : K58 I J) (k : Nat) (x : Int32) (hk : k ≠ 1) : K58 I (zU J 58 k x) := ⟨fun c c1 => by rw [← h.1 c c1]; funext q; rw [zU_a _ _ c1], by rw [zU_k _ _ (Ne.symm hk), h.2]⟩
theorem TpC.k {I J : Nat → Nat → Int32} {P : Nat → Nat → Option Nat} {T : Tp} (h : TpC I P T) (k : K58 I J) : TpC J P T := ⟨h.1, h.2.1, h.2.2.1, k.2.trans h.2.2.2.1, fun q hq => by rw [k.1 2 (by decide)]; exact h.2.2.2.2 q hq⟩
/-- the token from p on -/
def TkD (T : Tp) (I : Nat → Nat → Int32) (p : Nat) : Prop := I 58 2 = nI (sE T p) ∧ I 58 3 = nI (sK T p) ∧ I 58 4 = nI (sS T p) ∧ I 58 5 = nI (sZ T p) ∧ (sK T p = 2 → I 58 6 = nI (sN T p))
theorem nI_10 {b : Nat} (hb : b < 2 ^ 31) (n : Nat) (hn : n < 2 ^ 31) (x : Int32) (hx : x = nI n) : nI b = x ↔ b = n := by rw [hx]; exact nI_eq hb hn
section CTOK
variable {g : zG} {I : Nat → Nat → Int32} {P : Nat → Nat → Option Nat} {T : Tp}
theorem c_isBlank {b : Nat} (hb : b < 256) : Cl mX8_isBlank [.int (nI b)] (g, I, P) (some (.int (zb (isB b)))) (g, I, P) := by
  refine eX8_isBlank (wX8_isBlank_0 ⟨fun e => ⟨?_, rfl⟩, fun e => ⟨fun e2 => ⟨?_, rfl⟩, fun e2 => ⟨?_, rfl⟩⟩⟩)
  · rw [nI_10 (by omega) 10 (by decide) 10 rfl] at e
    unfold isB; rw [decide_eq_true (Or.inl e)]; rfl
  · rw [nI_10 (by omega) 10 (by decide) 10 rfl] at e
    rw [nI_10 (by omega) 32 (by decide) 32 rfl] at e2
    unfold isB; rw [decide_eq_false (by omega)]; rfl
  · rw [nI_10 (by omega) 32 (by decide) 32 rfl] at e2
    unfold isB; rw [decide_eq_true (Or.inr e2)]; rfl
theorem c_isLetter {b : Nat} (hb : b < 256) : Cl mX8_isLetter [.int (nI b)] (g, I, P) (some (.int (zb (isL b)))) (g, I, P) := by
  have l1 : nI b < 97 ↔ b < 97 := nI_ltI (b := 97) (by omega) (by decide)
  have l2 : 122 < nI b ↔ 122 < b := nI_ltI (a := 122) (by decide) (by omega)
  refine eX8_isLetter (wX8_isLetter_0 ⟨fun e => ⟨?_, rfl⟩, fun e => ⟨fun e2 => ⟨?_, rfl⟩, fun e2 => ⟨?_, rfl⟩⟩⟩)
  · rw [l1] at e; unfold isL; rw [decide_eq_false (by omega)]; rfl
  · rw [l2] at e2; unfold isL; rw [decide_eq_false (by omega)]; rfl
  · rw [l1] at e; rw [l2] at e2; unfold isL; rw [decide_eq_true (by omega)]; rfl
theorem c_isDigit {b : Nat} (hb : b < 256) : Cl mX8_isDigit [.int (nI b)] (g, I, P) (some (.int (zb (isD b)))) (g, I, P) := by
  have l1 : nI b < 48 ↔ b < 48 := nI_ltI (b := 48) (by omega) (by decide)
  have l2 : 57 < nI b ↔ 57 < b := nI_ltI (a := 57) (by decide) (by omega)
  refine eX8_isDigit (wX8_isDigit_0 ⟨fun e => ⟨?_, rfl⟩, fun e => ⟨fun e2 => ⟨?_, rfl⟩, fun e2 => ⟨?_, rfl⟩⟩⟩)
  · rw [l1] at e; unfold isD; rw [decide_eq_false (by omega)]; rfl
  · rw [l2] at e2; unfold isD; rw [decide_eq_false (by omega)]; rfl
  · rw [l1] at e; rw [l2] at e2; unfold isD; rw [decide_eq_true (by omega)]; rfl
theorem c_tape {k : Nat} (S : Sg g) (C : TpC I P T) (hk : k < T.1) : Cl mX11_got [.ref 2, .int (nI k)] (g, I, P) (some (.int (nI (T.2 k)))) (g, I, P) := by
  have := c_got (g := g) (I := I) (P := P) (a := 2) (k := k) (n := 600) (S.k 2 13 (by decide)) (S.l 2 600 (by decide)) (by decide) (by have := C.2.2.1; omega)
  rw [(C.2.2.2.2 k hk).1] at this
  exact this
theorem c_overRow {p : Nat} (S : Sg g) (C : TpC I P T) (hp : p ≤ T.1) (ha : I 58 2 = nI p) : ∃ J, Cl mX8_stepOverRow [.ref 58] (g, I, P) none (g, J, P) ∧ K58 I J ∧ J 58 2 = nI (rE (cL T) T.1 p) ∧ J 58 3 = 1 ∧ J 58 4 = I 58 4 := by
  have h6 := C.2.2.1
  have key : ∀ m p (K : Nat → Nat → Int32), p + m = T.1 → K58 I K → K 58 2 = nI p → K 58 3 = 1 → K 58 4 = I 58 4 → ∃ J, Zt none mX8_stepOverRow 0 0 5 [(0, .ref 58)] [] (g, K, P) none (g, J, P) ∧ K58 I J ∧ J 58 2 = nI (rE (cL T) T.1 p) ∧ J 58 3 = 1 ∧ J 58 4 = I 58 4 := by
    intro m
    induction m with
    | zero =>
      intro p K hm k h2 h3 h4
      have hm : p = T.1 := hm
      have CK := C.k k
      exact ⟨K, wX8_stepOverRow_5 ⟨S.k 58 8 (by decide), S.k 58 8 (by decide), fun _ => ⟨rfl, rfl⟩, fun e => absurd (by rw [CK.2.2.2.1, h2, hm]; exact Int32.le_refl _) e⟩, k, by rw [h2, rE_n (by omega)], h3, h4⟩
    | succ m ih =>
      intro p K hm k h2 h3 h4
      have CK := C.k k
      have hlt : p < T.1 := by omega
      have no : ¬ K 58 1 ≤ K 58 2 := by rw [CK.2.2.2.1, h2]; exact nI_ge hlt (by omega)
      have hb := (C.2.2.2.2 p hlt).2
      cases hc : cL T p with
      | false =>
        refine ⟨K, wX8_stepOverRow_5 ⟨S.k 58 8 (by decide), S.k 58 8 (by decide), fun e => absurd e no, fun _ => ⟨S.k 58 8 (by decide), _, CK.1, S.k 58 8 (by decide), _, by rw [h2]; exact c_tape S CK hlt, _, c_isLetter hb, fun _ => ⟨rfl, rfl⟩, fun e => ?_⟩⟩, k, by rw [h2, rE_f hc], h3, h4⟩
        rw [← ne_eq, zb_ne] at e
        rw [show isL (T.2 p) = false from hc] at e; cases e
      | true =>
        obtain ⟨J, z, q1, q2, q3⟩ := ih (p + 1) (zU K 58 2 (nI (p + 1))) (by omega) (k.u _ _ (by decide)) (zU_s _ _ _ _) (by rw [zU_k _ _ (by decide)]; exact h3) (by rw [zU_k _ _ (by decide)]; exact h4)
        refine ⟨J, wX8_stepOverRow_5 ⟨S.k 58 8 (by decide), S.k 58 8 (by decide), fun e => absurd e no, fun _ => ⟨S.k 58 8 (by decide), _, CK.1, S.k 58 8 (by decide), _, by rw [h2]; exact c_tape S CK hlt, _, c_isLetter hb, fun e => ?_, fun _ => ⟨S.k 58 8 (by decide), S.k 58 8 (by decide), by rw [h2, nI_1]; exact z⟩⟩⟩, q1, by rw [q2, rE_t hlt hc], q3⟩
        rw [zb_eq] at e
        rw [show isL (T.2 p) = true from hc] at e; cases e
  obtain ⟨J, z, q1, q2, q3, q4⟩ := key (T.1 - p) p (zU I 58 3 1) (by omega) ((K58.rf I).u _ _ (by decide)) (by rw [zU_k _ _ (by decide)]; exact ha) (zU_s _ _ _ _) (by rw [zU_k _ _ (by decide)])
  exact ⟨J, eX8_stepOverRow (wX8_stepOverRow_0 ⟨S.k 58 8 (by decide), z⟩), q1, q2, q3, q4⟩
theorem c_overDigits {s : Nat} (S : Sg g) (C : TpC I P T) (hp : s ≤ T.1) (ha : I 58 2 = nI s) (h4 : I 58 4 = nI s) : ∃ J, Cl mX8_stepOverDigits [.ref 58] (g, I, P) none (g, J, P) ∧ K58 I J ∧ J 58 2 = nI (rE (cD T) T.1 s) ∧ J 58 3 = nI (if rE (cD T) T.1 s - s ≤ 2 then 2 else 4) ∧ J 58 4 = nI s ∧ (rE (cD T) T.1 s - s ≤ 2 → J 58 6 = nI (nv T.2 s (rE (cD T) T.1 s - s))) := by
  have h6 := C.2.2.1
  have fin : ∀ p (K : Nat → Nat → Int32), s ≤ p → p ≤ T.1 → K58 I K → K 58 2 = nI p → K 58 4 = nI s → (p - s ≤ 2 → K 58 6 = nI (nv T.2 s (p - s))) → rE (cD T) T.1 p = p → ∃ J, Zt none mX8_stepOverDigits 0 0 72 [(0, .ref 58)] [] (g, K, P) none (g, J, P) ∧ K58 I J ∧ J 58 2 = nI (rE (cD T) T.1 p) ∧ J 58 3 = nI (if rE (cD T) T.1 p - s ≤ 2 then 2 else 4) ∧ J 58 4 = nI s ∧ (rE (cD T) T.1 p - s ≤ 2 → J 58 6 = nI (nv T.2 s (rE (cD T) T.1 p - s))) := by
    intro p K hs hp2 k h2 h4 h6 e
    rw [e]
    by_cases hc : p - s ≤ 2
    · rw [if_pos hc]
      refine ⟨zU K 58 3 2, wX8_stepOverDigits_72 ⟨S.k 58 8 (by decide), S.k 58 8 (by decide), fun e => ?_, fun _ => ⟨S.k 58 8 (by decide), rfl, rfl⟩⟩, k.u _ _ (by decide), by rw [zU_k _ _ (by decide)]; exact h2, zU_s _ _ _ _, by rw [zU_k _ _ (by decide)]; exact h4, fun h => by rw [zU_k _ _ (by decide)]; exact h6 h⟩
      rw [h2, h4, pk_sub hs, n2, nI_ltI (by decide) (by omega)] at e
      omega
    · rw [if_neg hc]
      refine ⟨zU K 58 3 4, wX8_stepOverDigits_72 ⟨S.k 58 8 (by decide), S.k 58 8 (by decide), fun _ => ⟨S.k 58 8 (by decide), rfl, rfl⟩, fun e => ?_⟩, k.u _ _ (by decide), by rw [zU_k _ _ (by decide)]; exact h2, zU_s _ _ _ _, by rw [zU_k _ _ (by decide)]; exact h4, fun h => by rw [zU_k _ _ (by decide)]; exact h6 h⟩
      rw [h2, h4, pk_sub hs, n2, nI_ltI (by decide) (by omega)] at e
      omega
  have key : ∀ m p (K : Nat → Nat → Int32), p + m = T.1 → s ≤ p → K58 I K → K 58 2 = nI p → K 58 4 = nI s → (p - s ≤ 2 → K 58 6 = nI (nv T.2 s (p - s))) → ∃ J, Zt none mX8_stepOverDigits 0 0 5 [(0, .ref 58)] [] (g, K, P) none (g, J, P) ∧ K58 I J ∧ J 58 2 = nI (rE (cD T) T.1 p) ∧ J 58 3 = nI (if rE (cD T) T.1 p - s ≤ 2 then 2 else 4) ∧ J 58 4 = nI s ∧ (rE (cD T) T.1 p - s ≤ 2 → J 58 6 = nI (nv T.2 s (rE (cD T) T.1 p - s))) := by
    intro m
    induction m with
    | zero =>
      intro p K hm hs k h2 h4 h6
      have hm : p = T.1 := hm
      have CK := C.k k
      obtain ⟨J, z, q⟩ := fin p K hs (by omega) k h2 h4 h6 (rE_n (by omega))
      exact ⟨J, wX8_stepOverDigits_5 ⟨S.k 58 8 (by decide), S.k 58 8 (by decide), fun _ => z, fun e => absurd (by rw [CK.2.2.2.1, h2, hm]; exact Int32.le_refl _) e⟩, q⟩
    | succ m ih =>
      intro p K hm hs k h2 h4 h6
      have CK := C.k k
      have hlt : p < T.1 := by omega
      have no : ¬ K 58 1 ≤ K 58 2 := by rw [CK.2.2.2.1, h2]; exact nI_ge hlt (by omega)
      have hb := (C.2.2.2.2 p hlt).2
      cases hc : cD T p with
      | false =>
        obtain ⟨J, z, q⟩ := fin p K hs (by omega) k h2 h4 h6 (rE_f hc)
        refine ⟨J, wX8_stepOverDigits_5 ⟨S.k 58 8 (by decide), S.k 58 8 (by decide), fun e => absurd e no, fun _ => ⟨S.k 58 8 (by decide), _, CK.1, S.k 58 8 (by decide), _, by rw [h2]; exact c_tape S CK hlt, _, c_isDigit hb, fun _ => z, fun e => ?_⟩⟩, q⟩
        rw [← ne_eq, zb_ne] at e
        rw [show isD (T.2 p) = false from hc] at e; cases e
      | true =>
        have hd : 48 ≤ T.2 p := by unfold cD isD at hc; rw [decide_eq_true_eq] at hc; exact hc.1
        obtain ⟨J, z, q⟩ := ih (p + 1) (zU (zU K 58 6 (K 58 6 * 10 + nI (T.2 p) - 48)) 58 2 (nI (p + 1))) (by omega) (by omega) ((k.u _ _ (by decide)).u _ _ (by decide)) (zU_s _ _ _ _) (by rw [zU_k _ _ (by decide), zU_k _ _ (by decide)]; exact h4) (fun h => by
          rw [zU_k _ _ (by decide), zU_s, h6 (by omega), show p + 1 - s = (p - s) + 1 by omega]
          show _ = nI (nv T.2 s (p - s) * 10 + (T.2 (s + (p - s)) - 48))
          rw [show s + (p - s) = p by omega, show (10 : Int32) = nI 10 from rfl, show (48 : Int32) = nI 48 from rfl, pk_mul, nI_add, pk_sub (by omega)]
          congr 1
          omega)
        rw [← rE_t hlt hc] at q
        refine ⟨J, wX8_stepOverDigits_5 ⟨S.k 58 8 (by decide), S.k 58 8 (by decide), fun e => absurd e no, fun _ => ⟨S.k 58 8 (by decide), _, CK.1, S.k 58 8 (by decide), _, by rw [h2]; exact c_tape S CK hlt, _, c_isDigit hb, fun e => ?_, fun _ => ⟨S.k 58 8 (by decide), S.k 58 8 (by decide), _, CK.1, S.k 58 8 (by decide), _, by rw [h2]; exact c_tape S CK hlt, S.k 58 8 (by decide), S.k 58 8 (by decide), S.k 58 8 (by decide), ?_⟩⟩⟩, q⟩
        · rw [zb_eq] at e
          rw [show isD (T.2 p) = true from hc] at e; cases e
        · rw [zU_k (f := K) (a := 58) (k := 6) (b := 58) (j := 2) _ (by decide), h2, nI_1]
          exact z
  obtain ⟨J, z, q⟩ := key (T.1 - s) s (zU I 58 6 0) (by omega) (Nat.le_refl _) ((K58.rf I).u _ _ (by decide)) (by rw [zU_k _ _ (by decide)]; exact ha) (by rw [zU_k _ _ (by decide)]; exact h4) (fun _ => by rw [zU_s, Nat.sub_self]; rfl)
  exact ⟨J, eX8_stepOverDigits (wX8_stepOverDigits_0 ⟨S.k 58 8 (by decide), z⟩), q⟩
theorem c_step {p : Nat} (S : Sg g) (C : TpC I P T) (hp : p ≤ T.1) (ha : I 58 2 = nI p) : ∃ J, Cl mX8_step [.ref 58] (g, I, P) none (g, J, P) ∧ K58 I J ∧ TkD T J p := by
  have h6 := C.2.2.1
  have fin : ∀ s (K : Nat → Nat → Int32), s ≤ T.1 → K58 I K → K 58 2 = nI s → ∃ J, Zt none mX8_step 0 0 41 [(0, .ref 58)] [] (g, K, P) none (g, J, P) ∧ K58 I J ∧ J 58 2 = nI (tE T s) ∧ J 58 3 = nI (tK T s) ∧ J 58 4 = nI s ∧ J 58 5 = nI (tE T s - s) ∧ (tK T s = 2 → J 58 6 = nI (nv T.2 s (tE T s - s))) := by
    intro s K hs k h2
    obtain ⟨K1, hK1⟩ : ∃ K1, K1 = zU K 58 4 (K 58 2) := ⟨_, rfl⟩
    have k1 : K58 I K1 := by rw [hK1]; exact k.u _ _ (by decide)
    have a2 : K1 58 2 = nI s := by rw [hK1, zU_k _ _ (by decide)]; exact h2
    have a4 : K1 58 4 = nI s := by rw [hK1, zU_s]; exact h2
    have C1 := C.k k1
    have hE := tE_b (T := T) hs
    have lt1 : K1 58 2 < K1 58 1 ↔ s < T.1 := by rw [a2, C1.2.2.2.1]; exact nI_ltI (by omega) (by omega)
    by_cases h0 : T.1 ≤ s
    · have e1 : tE T s = s := by unfold tE; rw [if_pos h0]
      have e2 : tK T s = 0 := by unfold tK; rw [if_pos h0]
      refine ⟨zU (zU K1 58 3 0) 58 5 (K1 58 2 - K1 58 4), wX8_step_41 ?_, (k1.u _ _ (by decide)).u _ _ (by decide), ?_, ?_, ?_, ?_, fun h => by omega⟩
      · rw [← hK1]
        refine ⟨S.k 58 8 (by decide), S.k 58 8 (by decide), S.k 58 8 (by decide), S.k 58 8 (by decide), fun e => absurd (lt1.mp e) (by omega), fun _ => ⟨S.k 58 8 (by decide), S.k 58 8 (by decide), S.k 58 8 (by decide), S.k 58 8 (by decide), rfl, ?_⟩⟩
        rw [zU_k (f := K1) (a := 58) (k := 3) (b := 58) (j := 2) _ (by decide), zU_k (f := K1) (a := 58) (k := 3) (b := 58) (j := 4) _ (by decide)]
      · rw [zU_k _ _ (by decide), zU_k _ _ (by decide), a2, e1]
      · rw [zU_k _ _ (by decide), zU_s, e2]; rfl
      · rw [zU_k _ _ (by decide), zU_k _ _ (by decide), a4]
      · rw [zU_s, a2, a4, e1, pk_sub (Nat.le_refl _)]
    · have hlt : s < T.1 := by omega
      have hb := (C.2.2.2.2 s hlt).2
      have tp := c_tape (g := g) S C1 hlt
      cases hL : cL T s with
      | true =>
        have e1 : tE T s = rE (cL T) T.1 s := by unfold tE; rw [if_neg h0, if_pos hL]
        have e2 : tK T s = 1 := by unfold tK; rw [if_neg h0, if_pos hL]
        obtain ⟨J, z, q1, q2, q3, q4⟩ := c_overRow S C1 hs a2
        rw [a4] at q4
        rw [← e1] at q2
        refine ⟨zU J 58 5 (J 58 2 - J 58 4), wX8_step_41 ?_, (k1.tr q1).u _ _ (by decide), by rw [zU_k _ _ (by decide)]; exact q2, by rw [zU_k _ _ (by decide), e2]; exact q3, by rw [zU_k _ _ (by decide)]; exact q4, by rw [zU_s, q2, q4, pk_sub hE.1], fun h => by omega⟩
        rw [← hK1]
        refine ⟨S.k 58 8 (by decide), S.k 58 8 (by decide), S.k 58 8 (by decide), S.k 58 8 (by decide), fun _ => ⟨S.k 58 8 (by decide), _, C1.1, S.k 58 8 (by decide), _, by rw [a2]; exact tp, _, c_isLetter hb, fun e => ?_, fun _ => ⟨S.k 58 8 (by decide), _, z, S.k 58 8 (by decide), S.k 58 8 (by decide), S.k 58 8 (by decide), rfl, rfl⟩⟩, fun e => absurd (lt1.mpr hlt) e⟩
        rw [zb_eq] at e
        rw [show isL (T.2 s) = true from hL] at e; cases e
      | false =>
        have nL : ¬ zb (isL (T.2 s)) ≠ 0 := by rw [zb_ne, show isL (T.2 s) = false from hL]; decide
        cases hD : cD T s with
        | true =>
          have e1 : tE T s = rE (cD T) T.1 s := by unfold tE; rw [if_neg h0, if_neg (by rw [hL]; decide), if_pos hD]
          have e2 : tK T s = if rE (cD T) T.1 s - s ≤ 2 then 2 else 4 := by unfold tK; rw [if_neg h0, if_neg (by rw [hL]; decide), if_pos hD]
          obtain ⟨J, z, q1, q2, q3, q4, q5⟩ := c_overDigits S C1 hs a2 a4
          rw [← e2] at q3
          rw [← e1] at q2 q5
          refine ⟨zU J 58 5 (J 58 2 - J 58 4), wX8_step_41 ?_, (k1.tr q1).u _ _ (by decide), by rw [zU_k _ _ (by decide)]; exact q2, by rw [zU_k _ _ (by decide)]; exact q3, by rw [zU_k _ _ (by decide)]; exact q4, by rw [zU_s, q2, q4, pk_sub hE.1], fun h => by
            rw [zU_k _ _ (by decide)]
            refine q5 ?_
            rw [e2] at h
            rw [e1]
            split at h
            · assumption
            · omega⟩
          rw [← hK1]
          refine ⟨S.k 58 8 (by decide), S.k 58 8 (by decide), S.k 58 8 (by decide), S.k 58 8 (by decide), fun _ => ⟨S.k 58 8 (by decide), _, C1.1, S.k 58 8 (by decide), _, by rw [a2]; exact tp, _, c_isLetter hb, fun _ => ⟨S.k 58 8 (by decide), _, C1.1, S.k 58 8 (by decide), _, by rw [a2]; exact tp, _, c_isDigit hb, fun e => ?_, fun _ => ⟨S.k 58 8 (by decide), _, z, S.k 58 8 (by decide), S.k 58 8 (by decide), S.k 58 8 (by decide), rfl, rfl⟩⟩, fun e => absurd e nL⟩, fun e => absurd (lt1.mpr hlt) e⟩
          rw [zb_eq] at e
          rw [show isD (T.2 s) = true from hD] at e; cases e
        | false =>
          have nD : ¬ zb (isD (T.2 s)) ≠ 0 := by rw [zb_ne, show isD (T.2 s) = false from hD]; decide
          have e1 : tE T s = s + 1 := by unfold tE; rw [if_neg h0, if_neg (by rw [hL]; decide), if_neg (by rw [hD]; decide)]
          have e2 : tK T s = if T.2 s = 59 then 3 else 4 := by unfold tK; rw [if_neg h0, if_neg (by rw [hL]; decide), if_neg (by rw [hD]; decide)]
          have z138 : ∀ x, x = nI (tK T s) → ∃ J, Zt none mX8_step 0 0 138 [(0, .ref 58)] [.int x, .ref 58] (g, K1, P) none (g, J, P) ∧ K58 I J ∧ J 58 2 = nI (tE T s) ∧ J 58 3 = nI (tK T s) ∧ J 58 4 = nI s ∧ J 58 5 = nI (tE T s - s) ∧ (tK T s = 2 → J 58 6 = nI (nv T.2 s (tE T s - s))) := by
            intro x hx
            refine ⟨zU (zU (zU K1 58 3 x) 58 2 (nI (s + 1))) 58 5 (nI 1), wX8_step_138 ⟨S.k 58 8 (by decide), S.k 58 8 (by decide), S.k 58 8 (by decide), S.k 58 8 (by decide), S.k 58 8 (by decide), S.k 58 8 (by decide), rfl, ?_⟩, ((k1.u _ _ (by decide)).u _ _ (by decide)).u _ _ (by decide), ?_, ?_, ?_, ?_, fun h => ?_⟩
            · rw [zU_k (f := K1) (a := 58) (k := 3) (b := 58) (j := 2) _ (by decide), a2, nI_1, zU_s, zU_k _ _ (by decide), zU_k _ _ (by decide), a4, pk_sub (by omega), show s + 1 - s = 1 by omega]
            · rw [zU_k _ _ (by decide), zU_s, e1]
            · rw [zU_k _ _ (by decide), zU_k _ _ (by decide), zU_s, hx]
            · rw [zU_k _ _ (by decide), zU_k _ _ (by decide), zU_k _ _ (by decide), a4]
            · rw [zU_s, e1, show s + 1 - s = 1 by omega]
            · rw [e2] at h
              split at h <;> omega
          by_cases h59 : T.2 s = 59
          · obtain ⟨J, z, q⟩ := z138 3 (by rw [e2, if_pos h59]; rfl)
            refine ⟨J, wX8_step_41 ?_, q⟩
            rw [← hK1]
            refine ⟨S.k 58 8 (by decide), S.k 58 8 (by decide), S.k 58 8 (by decide), S.k 58 8 (by decide), fun _ => ⟨S.k 58 8 (by decide), _, C1.1, S.k 58 8 (by decide), _, by rw [a2]; exact tp, _, c_isLetter hb, fun _ => ⟨S.k 58 8 (by decide), _, C1.1, S.k 58 8 (by decide), _, by rw [a2]; exact tp, _, c_isDigit hb, fun _ => ⟨S.k 58 8 (by decide), _, C1.1, S.k 58 8 (by decide), _, by rw [a2]; exact tp, fun e => absurd (by rw [h59]; rfl) e, fun _ => z⟩, fun e => absurd e nD⟩, fun e => absurd e nL⟩, fun e => absurd (lt1.mpr hlt) e⟩
          · obtain ⟨J, z, q⟩ := z138 4 (by rw [e2, if_neg h59]; rfl)
            refine ⟨J, wX8_step_41 ?_, q⟩
            rw [← hK1]
            refine ⟨S.k 58 8 (by decide), S.k 58 8 (by decide), S.k 58 8 (by decide), S.k 58 8 (by decide), fun _ => ⟨S.k 58 8 (by decide), _, C1.1, S.k 58 8 (by decide), _, by rw [a2]; exact tp, _, c_isLetter hb, fun _ => ⟨S.k 58 8 (by decide), _, C1.1, S.k 58 8 (by decide), _, by rw [a2]; exact tp, _, c_isDigit hb, fun _ => ⟨S.k 58 8 (by decide), _, C1.1, S.k 58 8 (by decide), _, by rw [a2]; exact tp, fun _ => z, fun e => absurd ((nI_10 (by omega) 59 (by decide) 59 rfl).mp e) h59⟩, fun e => absurd e nD⟩, fun e => absurd e nL⟩, fun e => absurd (lt1.mpr hlt) e⟩
  have key : ∀ m q (K : Nat → Nat → Int32), q + m = T.1 → K58 I K → K 58 2 = nI q → ∃ J, Zt none mX8_step 0 0 0 [(0, .ref 58)] [] (g, K, P) none (g, J, P) ∧ K58 I J ∧ J 58 2 = nI (tE T (rE (cB T) T.1 q)) ∧ J 58 3 = nI (tK T (rE (cB T) T.1 q)) ∧ J 58 4 = nI (rE (cB T) T.1 q) ∧ J 58 5 = nI (tE T (rE (cB T) T.1 q) - rE (cB T) T.1 q) ∧ (tK T (rE (cB T) T.1 q) = 2 → J 58 6 = nI (nv T.2 (rE (cB T) T.1 q) (tE T (rE (cB T) T.1 q) - rE (cB T) T.1 q))) := by
    intro m
    induction m with
    | zero =>
      intro q K hm k h2
      have hm : q = T.1 := hm
      have CK := C.k k
      rw [rE_n (by omega)]
      obtain ⟨J, z, r⟩ := fin q K (by omega) k h2
      exact ⟨J, wX8_step_0 ⟨S.k 58 8 (by decide), S.k 58 8 (by decide), fun _ => z, fun e => absurd (by rw [CK.2.2.2.1, h2, hm]; exact Int32.le_refl _) e⟩, r⟩
    | succ m ih =>
      intro q K hm k h2
      have CK := C.k k
      have hlt : q < T.1 := by omega
      have no : ¬ K 58 1 ≤ K 58 2 := by rw [CK.2.2.2.1, h2]; exact nI_ge hlt (by omega)
      have hb := (C.2.2.2.2 q hlt).2
      cases hc : cB T q with
      | false =>
        rw [rE_f hc]
        obtain ⟨J, z, r⟩ := fin q K (by omega) k h2
        refine ⟨J, wX8_step_0 ⟨S.k 58 8 (by decide), S.k 58 8 (by decide), fun e => absurd e no, fun _ => ⟨S.k 58 8 (by decide), _, CK.1, S.k 58 8 (by decide), _, by rw [h2]; exact c_tape S CK hlt, _, c_isBlank hb, fun _ => z, fun e => ?_⟩⟩, r⟩
        rw [← ne_eq, zb_ne] at e
        rw [show isB (T.2 q) = false from hc] at e; cases e
      | true =>
        rw [rE_t hlt hc]
        obtain ⟨J, z, r⟩ := ih (q + 1) (zU K 58 2 (nI (q + 1))) (by omega) (k.u _ _ (by decide)) (zU_s _ _ _ _)
        refine ⟨J, wX8_step_0 ⟨S.k 58 8 (by decide), S.k 58 8 (by decide), fun e => absurd e no, fun _ => ⟨S.k 58 8 (by decide), _, CK.1, S.k 58 8 (by decide), _, by rw [h2]; exact c_tape S CK hlt, _, c_isBlank hb, fun e => ?_, fun _ => ⟨S.k 58 8 (by decide), S.k 58 8 (by decide), by rw [h2, nI_1]; exact z⟩⟩⟩, r⟩
        rw [zb_eq] at e
        rw [show isB (T.2 q) = true from hc] at e; cases e
  obtain ⟨J, z, k, r⟩ := key (T.1 - p) p I (by omega) (K58.rf I) ha
  exact ⟨J, eX8_step z, k, r⟩
theorem c_is {p j : Nat} (S : Sg g) (C : TpC I P T) (hp : p ≤ T.1) (D : TkD T I p) (hj : j < 11) : Cl mX8_is [.ref 58, .retAddr j] (g, I, P) (some (.int (zb (decide (sK T p = 1 ∧ sW T p = j + 1))))) (g, I, P) := by
  have h6 := C.2.2.1
  have hl := s_lenlt j hj
  have hk := sK_le (T := T) (p := p)
  have b1 := sS_b hp
  have b2 := sE_b hp
  have hz : sZ T p ≤ T.1 := by unfold sZ; omega
  have sl := s_len (j := j) (h := (g, I, P)) hj
  rw [show Int32.ofNat (zLen.getD j 0) >>> (0 &&& 31) = nI (zLen.getD j 0) from (show ∀ j : Fin 11, Int32.ofNat (zLen.getD j.val 0) >>> (0 &&& 31) = nI (zLen.getD j.val 0) by decide +kernel) ⟨j, hj⟩] at sl
  by_cases h1 : sK T p = 1
  · have iff := sW_iff hp h1 hj
    have hL := sK_1 hp h1
    by_cases hs : sZ T p = zLen.getD j 0
    · have key : ∀ m i, i + m = sZ T p → (∀ k, k < i → T.2 (sS T p + k) = kN j k) → Zt none mX8_is 0 0 23 [(0, .ref 58), (1, .retAddr j), (2, .int (nI i))] [] (g, I, P) (some (.int (zb (decide (sK T p = 1 ∧ sW T p = j + 1))))) (g, I, P) := by
        intro m
        induction m with
        | zero =>
          intro i hi hA
          have hi : i = sZ T p := hi
          refine wX8_is_23 ⟨S.k 58 8 (by decide), fun _ => ⟨?_, rfl⟩, fun e => absurd (by rw [D.2.2.2.1, hi]; exact Int32.le_refl _) e⟩
          rw [decide_eq_true ⟨h1, iff.mpr ⟨hs, fun k hk => hA k (by omega)⟩⟩]; rfl
        | succ m ih =>
          intro i hi hA
          have hlt : sS T p + i < T.1 := by unfold sZ at hi; omega
          have hb := (C.2.2.2.2 (sS T p + i) hlt).2
          have hkn := kN_at hj (i := i) (by omega)
          have ch := s_char (j := j) (i := i) (h := (g, I, P)) hj (by omega)
          rw [hkn.2.2] at ch
          refine wX8_is_23 ⟨S.k 58 8 (by decide), fun e => ?_, fun _ => ⟨S.k 58 8 (by decide), _, C.1, S.k 58 8 (by decide), _, by rw [D.2.2.1, nI_add]; exact c_tape S C hlt, hj, _, ch, fun e => ?_, fun e => ⟨?_, rfl⟩⟩⟩
          · rw [D.2.2.2.1] at e; exact absurd e (nI_ge (by omega) (by omega))
          · rw [nI_eq (by omega) (by omega)] at e
            rw [nI_1]
            exact ih (i + 1) (by omega) (fun k hk => by
              by_cases e2 : k = i
              · subst e2; exact e
              · exact hA k (by omega))
          · rw [nI_eq (by omega) (by omega)] at e
            rw [decide_eq_false (fun h => e ((iff.mp h.2).2 i (by omega)))]; rfl
      refine eX8_is (wX8_is_0 ⟨S.k 58 8 (by decide), fun e => absurd (by rw [D.2.1, h1]; rfl) e, fun _ => ⟨S.k 58 8 (by decide), hj, _, sl, fun _ => key (sZ T p) 0 (by omega) (fun k hk => by omega), fun e => absurd (by rw [D.2.2.2.1, hs]) e⟩⟩)
    · refine eX8_is (wX8_is_0 ⟨S.k 58 8 (by decide), fun e => absurd (by rw [D.2.1, h1]; rfl) e, fun _ => ⟨S.k 58 8 (by decide), hj, _, sl, fun e => ?_, fun _ => ⟨?_, rfl⟩⟩⟩)
      · rw [D.2.2.2.1, nI_eq (by omega) (by omega)] at e
        exact absurd e hs
      · rw [decide_eq_false (fun h => hs (iff.mp h.2).1)]; rfl
  · refine eX8_is (wX8_is_0 ⟨S.k 58 8 (by decide), fun _ => ⟨?_, rfl⟩, fun e => ?_⟩)
    · rw [decide_eq_false (fun h => h1 h.1)]; rfl
    · rw [D.2.1] at e
      exact absurd ((nI_10 (by omega) 1 (by decide) 1 rfl).mp e) h1
end CTOK
