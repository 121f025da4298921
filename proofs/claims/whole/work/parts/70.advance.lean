/-! ===== the reference's tokens ===== -/
def TpR (I : Nat → Nat → Int32) (T : Tp) : Prop := T.1 ≤ 600 ∧ I 95 2 = nI T.1 ∧ ∀ k, k < T.1 → I 96 (10 + k) = nI (T.2 k) ∧ T.2 k < 256
/-- only the fields of a token have changed -/
def K95 (I J : Nat → Nat → Int32) : Prop := (∀ c, c ≠ 95 → J c = I c) ∧ ∀ k, (k < 3 ∨ 7 < k) → J 95 k = I 95 k
theorem K95.rf (I : Nat → Nat → Int32) : K95 I I := ⟨fun _ _ => rfl, fun _ _ => rfl⟩
theorem K95.tr {I J K : Nat → Nat → Int32} (h : K95 I J) (h2 : K95 J K) : K95 I K := ⟨fun c a1 => (h2.1 c a1).trans (h.1 c a1), fun k hk => (h2.2 k hk).trans (h.2 k hk)⟩
theorem K95.u {I J : Nat → Nat → Int32} (h : K95 I J) (k : Nat) (x : Int32) (hk : 3 ≤ k ∧ k ≤ 7) : K95 I (zU J 95 k x) := ⟨fun c c1 => by rw [← h.1 c c1]; funext q; rw [zU_a _ _ c1], fun q hq => by rw [zU_k _ _ (by omega), h.2 q hq]⟩
theorem TpR.k {I J : Nat → Nat → Int32} {T : Tp} (h : TpR I T) (k : K95 I J) : TpR J T := ⟨h.1, (k.2 2 (by omega)).trans h.2.1, fun q hq => by rw [k.1 96 (by decide)]; exact h.2.2 q hq⟩
/-- a token's kind as the reference counts it -/
def rk (k : Nat) : Nat := if k = 1 then 3 else if k = 2 then 1 else if k = 3 then 2 else k
/-- the token from p on is looked at -/
def LkD (T : Tp) (I : Nat → Nat → Int32) (p : Nat) : Prop := I 95 3 = nI (sE T p) ∧ I 95 4 = nI (sS T p) ∧ I 95 5 = nI (rk (sK T p)) ∧ (sK T p = 1 → I 95 7 = nI (sW T p)) ∧ (sK T p = 2 → I 95 6 = nI (sN T p))
theorem lgz {a b : Nat} (ha : a < 2 ^ 63) (hb : b < 2 ^ 63) : lg_cmp (lN a) (lN b) = 0 ↔ a = b := by
  obtain ⟨h1, h2⟩ := lc_n ha hb
  constructor
  · intro e
    rw [e] at h1 h2
    have c1 := h1.mp (Int32.le_refl _)
    have c2 := h2.mp (Int32.le_refl _)
    omega
  · intro e
    subst e
    unfold lg_cmp
    have h : ¬ lN a > lN a := Int64.lt_irrefl
    rw [if_neg h, if_pos rfl]
section RADV
variable {g : zG} {I : Nat → Nat → Int32} {P : Nat → Nat → Option Nat} {T : Tp}
theorem r_isLetter {b : Nat} (hb : b < 256) : Cl mX12_isLetter [.int (nI b)] (g, I, P) (some (.int (zb (isL b)))) (g, I, P) := by
  have l1 : nI b < 97 ↔ b < 97 := nI_ltI (b := 97) (by omega) (by decide)
  have l2 : 122 < nI b ↔ 122 < b := nI_ltI (a := 122) (by decide) (by omega)
  refine eX12_isLetter (wX12_isLetter_0 ⟨fun e => ⟨?_, rfl⟩, fun e => ⟨fun e2 => ⟨?_, rfl⟩, fun e2 => ⟨?_, rfl⟩⟩⟩)
  · rw [l1] at e; unfold isL; rw [decide_eq_false (by omega)]; rfl
  · rw [l2] at e2; unfold isL; rw [decide_eq_false (by omega)]; rfl
  · rw [l1] at e; rw [l2] at e2; unfold isL; rw [decide_eq_true (by omega)]; rfl
theorem r_isDigit {b : Nat} (hb : b < 256) : Cl mX12_isDigit [.int (nI b)] (g, I, P) (some (.int (zb (isD b)))) (g, I, P) := by
  have l1 : nI b < 48 ↔ b < 48 := nI_ltI (b := 48) (by omega) (by decide)
  have l2 : 57 < nI b ↔ 57 < b := nI_ltI (a := 57) (by decide) (by omega)
  refine eX12_isDigit (wX12_isDigit_0 ⟨fun e => ⟨?_, rfl⟩, fun e => ⟨fun e2 => ⟨?_, rfl⟩, fun e2 => ⟨?_, rfl⟩⟩⟩)
  · rw [l1] at e; unfold isD; rw [decide_eq_false (by omega)]; rfl
  · rw [l2] at e2; unfold isD; rw [decide_eq_false (by omega)]; rfl
  · rw [l1] at e; rw [l2] at e2; unfold isD; rw [decide_eq_true (by omega)]; rfl
theorem r_isLetterM : Cl mX12_isLetter [.int (-1)] (g, I, P) (some (.int 0)) (g, I, P) := eX12_isLetter (wX12_isLetter_0 ⟨fun _ => ⟨rfl, rfl⟩, fun e => absurd (by decide) e⟩)
theorem r_isDigitM : Cl mX12_isDigit [.int (-1)] (g, I, P) (some (.int 0)) (g, I, P) := eX12_isDigit (wX12_isDigit_0 ⟨fun _ => ⟨rfl, rfl⟩, fun e => absurd (by decide) e⟩)
theorem r_byteAt {k : Nat} (S : Sg g) (Q : Sp P) (C : TpR I T) (hk : k < T.1) : Cl mX12_byteAt [.ref 95, .int (nI k)] (g, I, P) (some (.int (nI (T.2 k)))) (g, I, P) := by
  have h6 := C.1
  obtain ⟨i1, i2⟩ := ix96 S (x := 10 + nI k) (k := 10 + k) (by rw [show (10 : Int32) = nI 10 from rfl, nI_add]) (by omega)
  refine eX12_byteAt (wX12_byteAt_0 ⟨S.k 95 12 (by decide), fun e => ?_, fun _ => ⟨S.k 95 12 (by decide), 96, Q.p 95 0 96 (by decide), S.k 96 13 (by decide), i1, ?_, rfl⟩⟩)
  · rw [C.2.1] at e; exact absurd e (nI_ge hk (by omega))
  · rw [i2, (C.2.2 k hk).1]
theorem r_byteAtE {k : Nat} (S : Sg g) (C : TpR I T) (hk : T.1 ≤ k) (h6 : k ≤ 600) : Cl mX12_byteAt [.ref 95, .int (nI k)] (g, I, P) (some (.int (-1))) (g, I, P) :=
  eX12_byteAt (wX12_byteAt_0 ⟨S.k 95 12 (by decide), fun _ => ⟨rfl, rfl⟩, fun e => absurd (by rw [C.2.1]; exact nI_le hk (by omega)) e⟩)
theorem r_w0 : Cl mX12_four [.int 23, .int 15, .int 18, .int 4] (g, I, P) (some (.long (lN (kV 0)))) (g, I, P) := eX12_four (wX12_four_0 ⟨congrArg (fun z => some (Value.long z)) (by decide +kernel), rfl⟩)
theorem r_w1 : Cl mX12_eight [.int 0, .int 6, .int 15, .int 12, .int 12, .int 15, .int 23, .int 19] (g, I, P) (some (.long (lN (kV 1)))) (g, I, P) := eX12_eight (wX12_eight_0 ⟨_, eX12_four (wX12_four_0 ⟨rfl, rfl⟩), _, eX12_four (wX12_four_0 ⟨rfl, rfl⟩), congrArg (fun z => some (Value.long z)) (by decide +kernel), rfl⟩)
theorem r_w2 : Cl mX12_four [.int 1, .int 19, .int 11, .int 19] (g, I, P) (some (.long (lN (kV 2)))) (g, I, P) := eX12_four (wX12_four_0 ⟨congrArg (fun z => some (Value.long z)) (by decide +kernel), rfl⟩)
theorem r_w3 : Cl mX12_eight [.int 0, .int 0, .int 19, .int 20, .int 15, .int 14, .int 5, .int 19] (g, I, P) (some (.long (lN (kV 3)))) (g, I, P) := eX12_eight (wX12_eight_0 ⟨_, eX12_four (wX12_four_0 ⟨rfl, rfl⟩), _, eX12_four (wX12_four_0 ⟨rfl, rfl⟩), congrArg (fun z => some (Value.long z)) (by decide +kernel), rfl⟩)
theorem r_w4 : Cl mX12_eight [.int 0, .int 0, .int 0, .int 6, .int 18, .int 15, .int 19, .int 20] (g, I, P) (some (.long (lN (kV 4)))) (g, I, P) := eX12_eight (wX12_eight_0 ⟨_, eX12_four (wX12_four_0 ⟨rfl, rfl⟩), _, eX12_four (wX12_four_0 ⟨rfl, rfl⟩), congrArg (fun z => some (Value.long z)) (by decide +kernel), rfl⟩)
theorem r_w5 : Cl mX12_eight [.int 0, .int 0, .int 0, .int 6, .int 15, .int 18, .int 7, .int 5] (g, I, P) (some (.long (lN (kV 5)))) (g, I, P) := eX12_eight (wX12_eight_0 ⟨_, eX12_four (wX12_four_0 ⟨rfl, rfl⟩), _, eX12_four (wX12_four_0 ⟨rfl, rfl⟩), congrArg (fun z => some (Value.long z)) (by decide +kernel), rfl⟩)
theorem r_w6 : Cl mX12_four [.int 13, .int 15, .int 19, .int 19] (g, I, P) (some (.long (lN (kV 6)))) (g, I, P) := eX12_four (wX12_four_0 ⟨congrArg (fun z => some (Value.long z)) (by decide +kernel), rfl⟩)
theorem r_w7 : Cl mX12_four [.int 3, .int 8, .int 9, .int 16] (g, I, P) (some (.long (lN (kV 7)))) (g, I, P) := eX12_four (wX12_four_0 ⟨congrArg (fun z => some (Value.long z)) (by decide +kernel), rfl⟩)
theorem r_w8 : Cl mX12_eight [.int 0, .int 0, .int 0, .int 19, .int 16, .int 12, .int 9, .int 20] (g, I, P) (some (.long (lN (kV 8)))) (g, I, P) := eX12_eight (wX12_eight_0 ⟨_, eX12_four (wX12_four_0 ⟨rfl, rfl⟩), _, eX12_four (wX12_four_0 ⟨rfl, rfl⟩), congrArg (fun z => some (Value.long z)) (by decide +kernel), rfl⟩)
theorem r_w9 : Cl mX12_four [.int 12, .int 9, .int 14, .int 5] (g, I, P) (some (.long (lN (kV 9)))) (g, I, P) := eX12_four (wX12_four_0 ⟨congrArg (fun z => some (Value.long z)) (by decide +kernel), rfl⟩)
theorem r_w10 : Cl mX12_eight [.int 0, .int 0, .int 0, .int 4, .int 5, .int 16, .int 20, .int 8] (g, I, P) (some (.long (lN (kV 10)))) (g, I, P) := eX12_eight (wX12_eight_0 ⟨_, eX12_four (wX12_four_0 ⟨rfl, rfl⟩), _, eX12_four (wX12_four_0 ⟨rfl, rfl⟩), congrArg (fun z => some (Value.long z)) (by decide +kernel), rfl⟩)
theorem kV_lt : ∀ j : Fin 11, kV j.val < 2 ^ 40 := by decide +kernel
theorem r_wordOf {v : Nat} (hv : v < 2 ^ 63) : Cl mX12_wordOf [.long (lN v)] (g, I, P) (some (.int (nI (wd v)))) (g, I, P) := by
  have z : ∀ j, j < 11 → (lg_cmp (lN v) (lN (kV j)) = 0 ↔ v = kV j) := fun j hj => lgz hv (by have := kV_lt ⟨j, hj⟩; have : kV j < 2 ^ 40 := this; omega)
  refine eX12_wordOf (wX12_wordOf_0 ?_)
  unfold wd
  by_cases e0 : v = kV 0
  · rw [if_pos e0]; exact ⟨_, r_w0, fun e => absurd ((z 0 (by decide)).mpr e0) e, fun _ => ⟨rfl, rfl⟩⟩
  rw [if_neg e0]; refine ⟨_, r_w0, fun _ => ?_, fun e => absurd ((z 0 (by decide)).mp e) e0⟩
  by_cases e1 : v = kV 1
  · rw [if_pos e1]; exact ⟨_, r_w1, fun e => absurd ((z 1 (by decide)).mpr e1) e, fun _ => ⟨rfl, rfl⟩⟩
  rw [if_neg e1]; refine ⟨_, r_w1, fun _ => ?_, fun e => absurd ((z 1 (by decide)).mp e) e1⟩
  by_cases e2 : v = kV 2
  · rw [if_pos e2]; exact ⟨_, r_w2, fun e => absurd ((z 2 (by decide)).mpr e2) e, fun _ => ⟨rfl, rfl⟩⟩
  rw [if_neg e2]; refine ⟨_, r_w2, fun _ => ?_, fun e => absurd ((z 2 (by decide)).mp e) e2⟩
  by_cases e3 : v = kV 3
  · rw [if_pos e3]; exact ⟨_, r_w3, fun e => absurd ((z 3 (by decide)).mpr e3) e, fun _ => ⟨rfl, rfl⟩⟩
  rw [if_neg e3]; refine ⟨_, r_w3, fun _ => ?_, fun e => absurd ((z 3 (by decide)).mp e) e3⟩
  by_cases e4 : v = kV 4
  · rw [if_pos e4]; exact ⟨_, r_w4, fun e => absurd ((z 4 (by decide)).mpr e4) e, fun _ => ⟨rfl, rfl⟩⟩
  rw [if_neg e4]; refine ⟨_, r_w4, fun _ => ?_, fun e => absurd ((z 4 (by decide)).mp e) e4⟩
  by_cases e5 : v = kV 5
  · rw [if_pos e5]; exact ⟨_, r_w5, fun e => absurd ((z 5 (by decide)).mpr e5) e, fun _ => ⟨rfl, rfl⟩⟩
  rw [if_neg e5]; refine ⟨_, r_w5, fun _ => ?_, fun e => absurd ((z 5 (by decide)).mp e) e5⟩
  by_cases e6 : v = kV 6
  · rw [if_pos e6]; exact ⟨_, r_w6, fun e => absurd ((z 6 (by decide)).mpr e6) e, fun _ => ⟨rfl, rfl⟩⟩
  rw [if_neg e6]; refine ⟨_, r_w6, fun _ => ?_, fun e => absurd ((z 6 (by decide)).mp e) e6⟩
  by_cases e7 : v = kV 7
  · rw [if_pos e7]; exact ⟨_, r_w7, fun e => absurd ((z 7 (by decide)).mpr e7) e, fun _ => ⟨rfl, rfl⟩⟩
  rw [if_neg e7]; refine ⟨_, r_w7, fun _ => ?_, fun e => absurd ((z 7 (by decide)).mp e) e7⟩
  by_cases e8 : v = kV 8
  · rw [if_pos e8]; exact ⟨_, r_w8, fun e => absurd ((z 8 (by decide)).mpr e8) e, fun _ => ⟨rfl, rfl⟩⟩
  rw [if_neg e8]; refine ⟨_, r_w8, fun _ => ?_, fun e => absurd ((z 8 (by decide)).mp e) e8⟩
  by_cases e9 : v = kV 9
  · rw [if_pos e9]; exact ⟨_, r_w9, fun e => absurd ((z 9 (by decide)).mpr e9) e, fun _ => ⟨rfl, rfl⟩⟩
  rw [if_neg e9]; refine ⟨_, r_w9, fun _ => ?_, fun e => absurd ((z 9 (by decide)).mp e) e9⟩
  by_cases e10 : v = kV 10
  · rw [if_pos e10]; exact ⟨_, r_w10, fun e => absurd ((z 10 (by decide)).mpr e10) e, fun _ => ⟨rfl, rfl⟩⟩
  rw [if_neg e10]; exact ⟨_, r_w10, fun _ => ⟨rfl, rfl⟩, fun e => absurd ((z 10 (by decide)).mp e) e10⟩
theorem r_advance {p : Nat} (S : Sg g) (Q : Sp P) (C : TpR I T) (hp : p ≤ T.1) (ha : I 95 3 = nI p) : ∃ J, Cl mX12_advance [.ref 95] (g, I, P) none (g, J, P) ∧ K95 I J ∧ LkD T J p := by
  have h6 := C.1
  -- letters
  have lett : ∀ s, s < T.1 → cL T s = true → ∀ m q (K : Nat → Nat → Int32), q + m = T.1 → s ≤ q → (∀ k, s ≤ k → k < q → cL T k = true) → K95 I K → K 95 3 = nI q → K 95 4 = nI s → ∃ J, Zt none mX12_advance 0 0 77 [(0, .ref 95), (2, .long (lN (vv T.2 s (min (q - s) 8))))] [] (g, K, P) none (g, J, P) ∧ K95 I J ∧ J 95 3 = nI (rE (cL T) T.1 q) ∧ J 95 4 = nI s ∧ J 95 5 = 3 ∧ J 95 7 = nI (if rE (cL T) T.1 q - s ≤ 8 then wd (vv T.2 s (rE (cL T) T.1 q - s)) else 99) := by
    intro s hs hL m
    have fin : ∀ q (K : Nat → Nat → Int32), s ≤ q → q ≤ T.1 → (∀ k, s ≤ k → k < q → cL T k = true) → K95 I K → K 95 3 = nI q → K 95 4 = nI s → ∀ (w1 : Int32), Cl mX12_byteAt [.ref 95, .int (K 95 3)] (g, K, P) (some (.int w1)) (g, K, P) → Cl mX12_isLetter [.int w1] (g, K, P) (some (.int 0)) (g, K, P) → ∃ J, Zt none mX12_advance 0 0 77 [(0, .ref 95), (2, .long (lN (vv T.2 s (min (q - s) 8))))] [] (g, K, P) none (g, J, P) ∧ K95 I J ∧ J 95 3 = nI q ∧ J 95 4 = nI s ∧ J 95 5 = 3 ∧ J 95 7 = nI (if q - s ≤ 8 then wd (vv T.2 s (q - s)) else 99) := by
      intro q K hsq hq hA k h3 h4 w1 c1 c2
      by_cases h8 : q - s ≤ 8
      · have hv := vv_le (f := T.2) (s := s) (q - s) (fun i hi => by
          have := hA (s + i) (by omega) (by omega)
          unfold cL isL at this
          rw [decide_eq_true_eq] at this
          exact this.2)
        have hv2 : 32 ^ (q - s) ≤ 32 ^ 8 := Nat.pow_le_pow_right (by decide) h8
        refine ⟨zU (zU K 95 7 (nI (wd (vv T.2 s (q - s))))) 95 5 3, wX12_advance_77 ⟨S.k 95 12 (by decide), S.k 95 12 (by decide), _, c1, _, c2, fun _ => ⟨S.k 95 12 (by decide), S.k 95 12 (by decide), fun _ => ⟨_, by rw [Nat.min_eq_left h8]; exact r_wordOf (by omega), S.k 95 12 (by decide), S.k 95 12 (by decide), rfl, rfl⟩, fun e => ?_⟩, fun e => absurd rfl e⟩, (k.u _ _ (by decide)).u _ _ (by decide), by rw [zU_k _ _ (by decide), zU_k _ _ (by decide)]; exact h3, by rw [zU_k _ _ (by decide), zU_k _ _ (by decide)]; exact h4, zU_s _ _ _ _, by rw [zU_k _ _ (by decide), zU_s, if_pos h8]⟩
        rw [h3, h4, pk_sub hsq] at e
        exact absurd (nI_le (b := 8) h8 (by decide)) e
      · refine ⟨zU (zU K 95 7 99) 95 5 3, wX12_advance_77 ⟨S.k 95 12 (by decide), S.k 95 12 (by decide), _, c1, _, c2, fun _ => ⟨S.k 95 12 (by decide), S.k 95 12 (by decide), fun e => ?_, fun _ => ⟨S.k 95 12 (by decide), S.k 95 12 (by decide), rfl, rfl⟩⟩, fun e => absurd rfl e⟩, (k.u _ _ (by decide)).u _ _ (by decide), by rw [zU_k _ _ (by decide), zU_k _ _ (by decide)]; exact h3, by rw [zU_k _ _ (by decide), zU_k _ _ (by decide)]; exact h4, zU_s _ _ _ _, by rw [zU_k _ _ (by decide), zU_s, if_neg h8]; rfl⟩
        rw [h3, h4, pk_sub hsq, n8, nI_leI (by omega) (by decide)] at e
        exact absurd e h8
    induction m with
    | zero =>
      intro q K hm hsq hA k h3 h4
      have hm : q = T.1 := hm
      rw [rE_n (by omega)]
      exact fin q K hsq (by omega) hA k h3 h4 (-1) (by rw [h3]; exact r_byteAtE S (C.k k) (by omega) (by omega)) r_isLetterM
    | succ m ih =>
      intro q K hm hsq hA k h3 h4
      have CK := C.k k
      have hlt : q < T.1 := by omega
      have hb := (C.2.2 q hlt).2
      have by1 := r_byteAt (g := g) (P := P) S Q CK hlt
      cases hc : cL T q with
      | false =>
        rw [rE_f hc]
        exact fin q K hsq (by omega) hA k h3 h4 _ (by rw [h3]; exact by1) (by have := r_isLetter (g := g) (I := K) (P := P) hb; rw [show isL (T.2 q) = false from hc] at this; exact this)
      | true =>
        rw [rE_t hlt hc]
        have hq : 97 ≤ T.2 q := by unfold cL isL at hc; rw [decide_eq_true_eq] at hc; exact hc.1
        have nl : ¬ zb (isL (T.2 q)) = 0 := by rw [zb_eq, show isL (T.2 q) = true from hc]; decide
        obtain ⟨J, z, r⟩ := ih (q + 1) (zU K 95 3 (nI (q + 1))) (by omega) (by omega) (fun j h1 h2 => by
          by_cases e : j = q
          · subst e; exact hc
          · exact hA j h1 (by omega)) (k.u _ _ (by decide)) (zU_s _ _ _ _) (by rw [zU_k _ _ (by decide)]; exact h4)
        refine ⟨J, wX12_advance_77 ⟨S.k 95 12 (by decide), S.k 95 12 (by decide), _, by rw [h3]; exact by1, _, r_isLetter hb, fun e => absurd e nl, fun _ => ⟨S.k 95 12 (by decide), S.k 95 12 (by decide), fun e => ⟨S.k 95 12 (by decide), S.k 95 12 (by decide), ?_⟩, fun e => ⟨S.k 95 12 (by decide), S.k 95 12 (by decide), _, by rw [h3]; exact by1, S.k 95 12 (by decide), S.k 95 12 (by decide), ?_⟩⟩⟩, r⟩
        · rw [h3, h4, pk_sub hsq, n8, nI_leI (by decide) (by omega)] at e
          rw [h3, nI_1]
          rw [show min (q + 1 - s) 8 = 8 by omega] at z
          rw [show min (q - s) 8 = 8 by omega]
          exact z
        · rw [h3, h4, pk_sub hsq, n8, nI_leI (by decide) (by omega)] at e
          rw [show min (q + 1 - s) 8 = (q - s) + 1 by omega] at z
          rw [h3, nI_1, show min (q - s) 8 = q - s by omega]
          have ev : (32 : Int64) * lN (vv T.2 s (q - s)) + (nI (T.2 q)).toInt64 - 96 = lN (vv T.2 s (q - s + 1)) := by
            rw [show (32 : Int64) = lN 32 from rfl, show (96 : Int64) = lN 96 from rfl, nI_l (by omega), lN_mul, lN_add, lN_sub (by omega)]
            congr 1
            show _ = 32 * vv T.2 s (q - s) + (T.2 (s + (q - s)) - 96)
            rw [show s + (q - s) = q by omega]
            omega
          rw [ev]
          exact z
  -- digits
  have digs : ∀ s, s < T.1 → cD T s = true → ∀ m q (K : Nat → Nat → Int32), q + m = T.1 → s ≤ q → K95 I K → K 95 3 = nI q → K 95 4 = nI s → (K 95 6 = nI (nv T.2 s (min (q - s) 2))) → ∃ J, Zt none mX12_advance 0 0 185 [(0, .ref 95)] [] (g, K, P) none (g, J, P) ∧ K95 I J ∧ J 95 3 = nI (rE (cD T) T.1 q) ∧ J 95 4 = nI s ∧ J 95 5 = nI (if rE (cD T) T.1 q - s ≤ 2 then 1 else 4) ∧ (rE (cD T) T.1 q - s ≤ 2 → J 95 6 = nI (nv T.2 s (rE (cD T) T.1 q - s))) := by
    intro s hs hD m
    have fin : ∀ q (K : Nat → Nat → Int32), s ≤ q → q ≤ T.1 → K95 I K → K 95 3 = nI q → K 95 4 = nI s → K 95 6 = nI (nv T.2 s (min (q - s) 2)) → ∀ (w1 : Int32), Cl mX12_byteAt [.ref 95, .int (K 95 3)] (g, K, P) (some (.int w1)) (g, K, P) → Cl mX12_isDigit [.int w1] (g, K, P) (some (.int 0)) (g, K, P) → ∃ J, Zt none mX12_advance 0 0 185 [(0, .ref 95)] [] (g, K, P) none (g, J, P) ∧ K95 I J ∧ J 95 3 = nI q ∧ J 95 4 = nI s ∧ J 95 5 = nI (if q - s ≤ 2 then 1 else 4) ∧ (q - s ≤ 2 → J 95 6 = nI (nv T.2 s (q - s))) := by
      intro q K hsq hq k h3 h4 h6 w1 c1 c2
      by_cases h8 : q - s ≤ 2
      · refine ⟨zU K 95 5 1, wX12_advance_185 ⟨S.k 95 12 (by decide), S.k 95 12 (by decide), _, c1, _, c2, fun _ => ⟨S.k 95 12 (by decide), S.k 95 12 (by decide), fun _ => ⟨S.k 95 12 (by decide), rfl, rfl⟩, fun e => ?_⟩, fun e => absurd rfl e⟩, k.u _ _ (by decide), by rw [zU_k _ _ (by decide)]; exact h3, by rw [zU_k _ _ (by decide)]; exact h4, by rw [zU_s, if_pos h8]; rfl, fun _ => by rw [zU_k _ _ (by decide), h6, Nat.min_eq_left h8]⟩
        rw [h3, h4, pk_sub hsq] at e
        exact absurd (nI_le (b := 2) h8 (by decide)) e
      · refine ⟨zU K 95 5 4, wX12_advance_185 ⟨S.k 95 12 (by decide), S.k 95 12 (by decide), _, c1, _, c2, fun _ => ⟨S.k 95 12 (by decide), S.k 95 12 (by decide), fun e => ?_, fun _ => ⟨S.k 95 12 (by decide), rfl, rfl⟩⟩, fun e => absurd rfl e⟩, k.u _ _ (by decide), by rw [zU_k _ _ (by decide)]; exact h3, by rw [zU_k _ _ (by decide)]; exact h4, by rw [zU_s, if_neg h8]; rfl, fun h => absurd h h8⟩
        rw [h3, h4, pk_sub hsq, n2, nI_leI (by omega) (by decide)] at e
        exact absurd e h8
    induction m with
    | zero =>
      intro q K hm hsq k h3 h4 h6
      have hm : q = T.1 := hm
      rw [rE_n (by omega)]
      exact fin q K hsq (by omega) k h3 h4 h6 (-1) (by rw [h3]; exact r_byteAtE S (C.k k) (by omega) (by omega)) r_isDigitM
    | succ m ih =>
      intro q K hm hsq k h3 h4 h6
      have CK := C.k k
      have hlt : q < T.1 := by omega
      have hb := (C.2.2 q hlt).2
      have by1 := r_byteAt (g := g) (P := P) S Q CK hlt
      cases hc : cD T q with
      | false =>
        rw [rE_f hc]
        exact fin q K hsq (by omega) k h3 h4 h6 _ (by rw [h3]; exact by1) (by have := r_isDigit (g := g) (I := K) (P := P) hb; rw [show isD (T.2 q) = false from hc] at this; exact this)
      | true =>
        rw [rE_t hlt hc]
        have hq : 48 ≤ T.2 q := by unfold cD isD at hc; rw [decide_eq_true_eq] at hc; exact hc.1
        have nl : ¬ zb (isD (T.2 q)) = 0 := by rw [zb_eq, show isD (T.2 q) = true from hc]; decide
        by_cases h2 : 2 ≤ q - s
        · obtain ⟨J, z, r⟩ := ih (q + 1) (zU K 95 3 (nI (q + 1))) (by omega) (by omega) (k.u _ _ (by decide)) (zU_s _ _ _ _) (by rw [zU_k _ _ (by decide)]; exact h4) (by rw [zU_k _ _ (by decide), h6, show min (q + 1 - s) 2 = min (q - s) 2 by omega])
          refine ⟨J, wX12_advance_185 ⟨S.k 95 12 (by decide), S.k 95 12 (by decide), _, by rw [h3]; exact by1, _, r_isDigit hb, fun e => absurd e nl, fun _ => ⟨S.k 95 12 (by decide), S.k 95 12 (by decide), fun _ => ⟨S.k 95 12 (by decide), S.k 95 12 (by decide), by rw [h3, nI_1]; exact z⟩, fun e => ?_⟩⟩, r⟩
          rw [h3, h4, pk_sub hsq, n2, nI_leI (by decide) (by omega)] at e
          exact absurd h2 e
        · obtain ⟨J, z, r⟩ := ih (q + 1) (zU (zU K 95 6 (10 * K 95 6 + nI (T.2 q) - 48)) 95 3 (nI (q + 1))) (by omega) (by omega) ((k.u _ _ (by decide)).u _ _ (by decide)) (zU_s _ _ _ _) (by rw [zU_k _ _ (by decide), zU_k _ _ (by decide)]; exact h4) (by
            rw [zU_k _ _ (by decide), zU_s, h6, show min (q + 1 - s) 2 = (q - s) + 1 by omega, show min (q - s) 2 = q - s by omega]
            show _ = nI (nv T.2 s (q - s) * 10 + (T.2 (s + (q - s)) - 48))
            rw [show s + (q - s) = q by omega, show (10 : Int32) = nI 10 from rfl, show (48 : Int32) = nI 48 from rfl, pk_mul, nI_add, pk_sub (by omega)]
            congr 1
            omega)
          refine ⟨J, wX12_advance_185 ⟨S.k 95 12 (by decide), S.k 95 12 (by decide), _, by rw [h3]; exact by1, _, r_isDigit hb, fun e => absurd e nl, fun _ => ⟨S.k 95 12 (by decide), S.k 95 12 (by decide), fun e => ?_, fun _ => ⟨S.k 95 12 (by decide), S.k 95 12 (by decide), S.k 95 12 (by decide), _, by rw [h3]; exact by1, S.k 95 12 (by decide), S.k 95 12 (by decide), S.k 95 12 (by decide), ?_⟩⟩⟩, r⟩
          · rw [h3, h4, pk_sub hsq, n2, nI_leI (by decide) (by omega)] at e
            exact absurd e h2
          · rw [zU_k (f := K) (a := 95) (k := 6) (b := 95) (j := 3) _ (by decide), h3, nI_1]
            exact z
  have key : ∀ m q (K : Nat → Nat → Int32), q + m = T.1 → K95 I K → K 95 3 = nI q → ∃ J, Zt none mX12_advance 0 0 0 [(0, .ref 95)] [] (g, K, P) none (g, J, P) ∧ K95 I J ∧ J 95 3 = nI (tE T (rE (cB T) T.1 q)) ∧ J 95 4 = nI (rE (cB T) T.1 q) ∧ J 95 5 = nI (rk (tK T (rE (cB T) T.1 q))) ∧ (tK T (rE (cB T) T.1 q) = 1 → J 95 7 = nI (if tE T (rE (cB T) T.1 q) - rE (cB T) T.1 q ≤ 8 then wd (vv T.2 (rE (cB T) T.1 q) (tE T (rE (cB T) T.1 q) - rE (cB T) T.1 q)) else 99)) ∧ (tK T (rE (cB T) T.1 q) = 2 → J 95 6 = nI (nv T.2 (rE (cB T) T.1 q) (tE T (rE (cB T) T.1 q) - rE (cB T) T.1 q))) := by
    intro m
    induction m with
    | zero =>
      intro q K hm k h3
      have hm : q = T.1 := hm
      have CK := C.k k
      rw [rE_n (by omega)]
      have e1 : tE T q = q := by unfold tE; rw [if_pos (by omega)]
      have e2 : tK T q = 0 := by unfold tK; rw [if_pos (by omega)]
      rw [e1, e2]
      have bE := r_byteAtE (g := g) (P := P) S CK (k := q) (by omega) (by omega)
      obtain ⟨K1, hK1⟩ : ∃ K1, K1 = zU K 95 4 (K 95 3) := ⟨_, rfl⟩
      have k1 : K95 I K1 := by rw [hK1]; exact k.u _ _ (by decide)
      have a3 : K1 95 3 = nI q := by rw [hK1, zU_k _ _ (by decide)]; exact h3
      have bE1 := r_byteAtE (g := g) (P := P) S (C.k k1) (k := q) (by omega) (by omega)
      refine ⟨zU K1 95 5 0, wX12_advance_0 ⟨S.k 95 12 (by decide), S.k 95 12 (by decide), -1, by rw [h3]; exact bE, fun e => absurd e (by decide), fun _ => ⟨S.k 95 12 (by decide), S.k 95 12 (by decide), -1, by rw [h3]; exact bE, fun _ => ?_, fun e => absurd e (by decide)⟩⟩, k1.u _ _ (by decide), by rw [zU_k _ _ (by decide)]; exact a3, by rw [zU_k _ _ (by decide), hK1, zU_s]; exact h3, zU_s _ _ _ _, fun e => (nomatch e), fun e => (nomatch e)⟩
      rw [← hK1]
      exact ⟨S.k 95 12 (by decide), S.k 95 12 (by decide), S.k 95 12 (by decide), S.k 95 12 (by decide), -1, by rw [a3]; exact bE1, fun e => absurd e (by decide), fun _ => ⟨S.k 95 12 (by decide), rfl, rfl⟩⟩
    | succ m ih =>
      intro q K hm k h3
      have CK := C.k k
      have hlt : q < T.1 := by omega
      have hb := (C.2.2 q hlt).2
      have by0 := r_byteAt (g := g) (P := P) S Q CK hlt
      have i10 : nI (T.2 q) = 10 ↔ T.2 q = 10 := nI_10 (by omega) 10 (by decide) 10 rfl
      have i32 : nI (T.2 q) = 32 ↔ T.2 q = 32 := nI_10 (by omega) 32 (by decide) 32 rfl
      have i59 : nI (T.2 q) = 59 ↔ T.2 q = 59 := nI_10 (by omega) 59 (by decide) 59 rfl
      cases hc : cB T q with
      | true =>
        rw [rE_t hlt hc]
        obtain ⟨J, z, r⟩ := ih (q + 1) (zU K 95 3 (nI (q + 1))) (by omega) (k.u _ _ (by decide)) (zU_s _ _ _ _)
        unfold cB isB at hc
        rw [decide_eq_true_eq] at hc
        refine ⟨J, wX12_advance_0 ⟨S.k 95 12 (by decide), S.k 95 12 (by decide), _, by rw [h3]; exact by0, fun _ => ⟨S.k 95 12 (by decide), S.k 95 12 (by decide), by rw [h3, nI_1]; exact z⟩, fun e => ⟨S.k 95 12 (by decide), S.k 95 12 (by decide), _, by rw [h3]; exact by0, fun e2 => ?_, fun _ => ⟨S.k 95 12 (by decide), S.k 95 12 (by decide), by rw [h3, nI_1]; exact z⟩⟩⟩, r⟩
        rw [i10] at e; rw [i32] at e2
        omega
      | false =>
        rw [rE_f hc]
        unfold cB isB at hc
        rw [decide_eq_false_iff_not] at hc
        obtain ⟨K1, hK1⟩ : ∃ K1, K1 = zU K 95 4 (K 95 3) := ⟨_, rfl⟩
        have k1 : K95 I K1 := by rw [hK1]; exact k.u _ _ (by decide)
        have a3 : K1 95 3 = nI q := by rw [hK1, zU_k _ _ (by decide)]; exact h3
        have a4 : K1 95 4 = nI q := by rw [hK1, zU_s]; exact h3
        have by1 := r_byteAt (g := g) (P := P) S Q (C.k k1) hlt
        have fin : ∀ J, ((0 ≤ nI (T.2 q)) → ∃ (w14 : Int32), Cl mX12_isLetter [.int (nI (T.2 q))] (g, K1, P) (some (.int w14)) (g, K1, P) ∧ ((w14 = 0) → ∃ (w18 : Int32), Cl mX12_isDigit [.int (nI (T.2 q))] (g, K1, P) (some (.int w18)) (g, K1, P) ∧ ((w18 = 0) → zk g 95 12 ∧ zk g 95 12 ∧ ((¬ nI (T.2 q) = 59) → zk g 95 12 ∧ (none : Option Value) = none ∧ ((g, J, P) : zH) = (g, zU (zU K1 95 3 ((K1 95 3) + 1)) 95 5 4, P)) ∧ ((nI (T.2 q) = 59) → zk g 95 12 ∧ (none : Option Value) = none ∧ ((g, J, P) : zH) = (g, zU (zU K1 95 3 ((K1 95 3) + 1)) 95 5 2, P))) ∧ ((¬ w18 = 0) → zk g 95 12 ∧ Zt none mX12_advance 0 0 185 [(0, .ref 95)] [] (g, zU K1 95 6 0, P) none (g, J, P))) ∧ ((¬ w14 = 0) → Zt none mX12_advance 0 0 77 [(0, .ref 95), (2, .long 0)] [] (g, K1, P) none (g, J, P))) → Zt none mX12_advance 0 0 0 [(0, .ref 95)] [] (g, K, P) none (g, J, P) := by
          intro J H
          refine wX12_advance_0 ⟨S.k 95 12 (by decide), S.k 95 12 (by decide), _, by rw [h3]; exact by0, fun e => ?_, fun _ => ⟨S.k 95 12 (by decide), S.k 95 12 (by decide), _, by rw [h3]; exact by0, fun _ => ?_, fun e => ?_⟩⟩
          · rw [i10] at e; omega
          · rw [← hK1]
            exact ⟨S.k 95 12 (by decide), S.k 95 12 (by decide), S.k 95 12 (by decide), S.k 95 12 (by decide), _, by rw [a3]; exact by1, H, fun e => absurd (nI_pos' (by omega)) e⟩
          · rw [i32] at e; omega
        have h0 : ¬ T.1 ≤ q := by omega
        cases hL : cL T q with
        | true =>
          have e1 : tE T q = rE (cL T) T.1 q := by unfold tE; rw [if_neg h0, if_pos hL]
          have e2 : tK T q = 1 := by unfold tK; rw [if_neg h0, if_pos hL]
          obtain ⟨J, z, r1, r2, r3, r4, r5⟩ := lett q hlt hL (T.1 - q) q K1 (by omega) (Nat.le_refl _) (fun k h1 h2 => by omega) k1 a3 a4
          rw [show min (q - q) 8 = 0 by omega] at z
          refine ⟨J, fin J (fun _ => ⟨_, r_isLetter hb, fun e => ?_, fun _ => z⟩), r1, by rw [e1]; exact r2, r3, by rw [e2]; exact r4, fun _ => by rw [e1]; exact r5, fun e => by omega⟩
          rw [zb_eq, show isL (T.2 q) = true from hL] at e; cases e
        | false =>
          have nL : ¬ ¬ zb (isL (T.2 q)) = 0 := fun e => by rw [← ne_eq, zb_ne, show isL (T.2 q) = false from hL] at e; cases e
          cases hD : cD T q with
          | true =>
            have e1 : tE T q = rE (cD T) T.1 q := by unfold tE; rw [if_neg h0, if_neg (by rw [hL]; decide), if_pos hD]
            have e2 : tK T q = if rE (cD T) T.1 q - q ≤ 2 then 2 else 4 := by unfold tK; rw [if_neg h0, if_neg (by rw [hL]; decide), if_pos hD]
            obtain ⟨J, z, r1, r2, r3, r4, r5⟩ := digs q hlt hD (T.1 - q) q (zU K1 95 6 0) (by omega) (Nat.le_refl _) (k1.u _ _ (by decide)) (by rw [zU_k _ _ (by decide)]; exact a3) (by rw [zU_k _ _ (by decide)]; exact a4) (by rw [zU_s, show min (q - q) 2 = 0 by omega]; rfl)
            refine ⟨J, fin J (fun _ => ⟨_, r_isLetter hb, fun _ => ⟨_, r_isDigit hb, fun e => ?_, fun _ => ⟨S.k 95 12 (by decide), z⟩⟩, fun e => absurd e nL⟩), r1, by rw [e1]; exact r2, r3, ?_, fun e => ?_, fun e => ?_⟩
            · rw [zb_eq, show isD (T.2 q) = true from hD] at e; cases e
            · rw [r4, e2]
              by_cases h8 : rE (cD T) T.1 q - q ≤ 2
              · rw [if_pos h8, if_pos h8]; rfl
              · rw [if_neg h8, if_neg h8]; rfl
            · rw [e2] at e; split at e <;> omega
            · rw [e2] at e
              rw [e1]
              split at e
              · exact r5 (by assumption)
              · omega
          | false =>
            have nD : ¬ ¬ zb (isD (T.2 q)) = 0 := fun e => by rw [← ne_eq, zb_ne, show isD (T.2 q) = false from hD] at e; cases e
            have e1 : tE T q = q + 1 := by unfold tE; rw [if_neg h0, if_neg (by rw [hL]; decide), if_neg (by rw [hD]; decide)]
            have e2 : tK T q = if T.2 q = 59 then 3 else 4 := by unfold tK; rw [if_neg h0, if_neg (by rw [hL]; decide), if_neg (by rw [hD]; decide)]
            have kk := (k1.u 3 (nI (q + 1)) (by decide))
            by_cases h59 : T.2 q = 59
            · rw [if_pos h59] at e2
              refine ⟨zU (zU K1 95 3 (nI (q + 1))) 95 5 2, fin _ (fun _ => ⟨_, r_isLetter hb, fun _ => ⟨_, r_isDigit hb, fun _ => ⟨S.k 95 12 (by decide), S.k 95 12 (by decide), fun e => absurd (i59.mpr h59) e, fun _ => ⟨S.k 95 12 (by decide), rfl, by rw [a3, nI_1]⟩⟩, fun e => absurd e nD⟩, fun e => absurd e nL⟩), kk.u _ _ (by decide), by rw [zU_k _ _ (by decide), zU_s, e1], by rw [zU_k _ _ (by decide), zU_k _ _ (by decide)]; exact a4, by rw [zU_s, e2]; rfl, fun e => by omega, fun e => by omega⟩
            · rw [if_neg h59] at e2
              refine ⟨zU (zU K1 95 3 (nI (q + 1))) 95 5 4, fin _ (fun _ => ⟨_, r_isLetter hb, fun _ => ⟨_, r_isDigit hb, fun _ => ⟨S.k 95 12 (by decide), S.k 95 12 (by decide), fun _ => ⟨S.k 95 12 (by decide), rfl, by rw [a3, nI_1]⟩, fun e => absurd (i59.mp e) h59⟩, fun e => absurd e nD⟩, fun e => absurd e nL⟩), kk.u _ _ (by decide), by rw [zU_k _ _ (by decide), zU_s, e1], by rw [zU_k _ _ (by decide), zU_k _ _ (by decide)]; exact a4, by rw [zU_s, e2]; rfl, fun e => by omega, fun e => by omega⟩
  obtain ⟨J, z, k, r⟩ := key (T.1 - p) p I (by omega) (K95.rf I) ha
  exact ⟨J, eX12_advance z, k, r⟩
end RADV
