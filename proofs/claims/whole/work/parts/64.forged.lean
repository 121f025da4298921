/-! ===== the reference's rules; age, forged ===== -/
/-- facts that aren't so by a rule -/
def nS (q : GD) (r : Nat) : Nat := q.1 - ht q (r / 1000) (pOf r)
theorem ht_MM {q : GD} {r : Nat} (h1 : isR r = true) (h2 : 1000 ≤ r) (h3 : r < 10000) : ht q (r / 1000) (pOf r) ≤ MM q := by
  have := r_back h1
  exact Nat.le_trans (ht_mxs (q := q) (p := pOf r) (by omega) (by omega)) (mxs_MM this.1)
theorem nS_fit {q : GD} {r : Nat} (h1 : isR r = true) (h2 : 1000 ≤ r) (h3 : r < 10000) : fR q r = decide (nS q r = q.1 - MM q) := by
  have a1 := ht_MM (q := q) h1 h2 h3
  have a2 := MM_le q
  unfold fR fitB nS
  rw [h1, decide_eq_true (show 1 ≤ r / 1000 by omega), Bool.true_and, Bool.true_and]
  by_cases e : ht q (r / 1000) (pOf r) = MM q
  · rw [decide_eq_true e, decide_eq_true (by rw [e])]
  · rw [decide_eq_false e, decide_eq_false (by omega)]
section REFR
variable {g : zG} {I : Nat → Nat → Int32} {P : Nat → Nat → Option Nat} {t : TD} {im : Nat → Option TD} {f0 : Nat} {q : GD}
theorem r_digit {n d : Nat} (hn : n < 2 ^ 31) (h0 : 0 < d) (hd : d < 2 ^ 31) : Cl mX12_digit [.int (nI n), .int (nI d)] (g, I, P) (some (.int (nI (n / d % 10)))) (g, I, P) := by
  refine eX12_digit (wX12_digit_0 ⟨nI_ne0 h0 hd, ?_, rfl⟩)
  rw [pk_div hn h0 hd, show (10 : Int32) = nI 10 from rfl, pk_rem (Nat.lt_of_le_of_lt (Nat.div_le_self _ _) hn) (by decide) (by decide)]
theorem r_isRule {n : Nat} (hn : n < 2 ^ 31) : Cl mX12_isRule [.int (nI n)] (g, I, P) (some (.int (zb (isR n)))) (g, I, P) := by
  have b1 : n / 100 % 10 < 10 := Nat.mod_lt _ (by decide)
  have b2 : n / 10 % 10 < 10 := Nat.mod_lt _ (by decide)
  refine eX12_isRule (wX12_isRule_0 ⟨_, r_digit (d := 100) hn (by decide) (by decide), fun e => ⟨?_, rfl⟩, fun e => ⟨_, r_digit (d := 10) hn (by decide) (by decide), fun e2 => ⟨?_, rfl⟩, fun e2 => ⟨?_, rfl⟩⟩⟩)
  · rw [n0, nI_leI (by omega) (by decide)] at e
    rw [isR_f (Or.inl (by omega))]; rfl
  · rw [n0, nI_leI (by omega) (by decide)] at e2
    rw [isR_f (Or.inr (by omega))]; rfl
  · rw [n0, nI_leI (by omega) (by decide)] at e e2
    unfold isR
    rw [decide_eq_true (by omega)]; rfl
theorem r_isSo {r k : Nat} (S : Sg g) (Q : Sp P) (W : GW q) (D : MgD I f0 q) (hr : r < 10000) (h : isR r = true) (hk : k < q.1) : Cl mX12_isSo [.ref 95, .int (nI r), .int (nI k)] (g, I, P) (some (.int (zb (soB q (r / 1000) (pOf r) k)))) (g, I, P) := by
  obtain ⟨p8, bg, bw, bn, -⟩ := r_back h
  obtain ⟨hf, e38, e39, A⟩ := D
  obtain ⟨d1, d2⟩ := A.2 k hk
  have hn := W.1
  have hw := W.2 k hk
  have hl := lsv_le (k := k) W p8
  have hwr := wr_le (pOf r)
  have hg := gLast_ge (q := q) q.1 k hk
  have hs : r / 1000 % 10 = r / 1000 := by omega
  obtain ⟨i1, i2⟩ := ix96 S (x := I 95 38 + 1 + 2 * nI k) (k := f0 + 1 + 2 * k) (by rw [e38, nI_1, n2, pk_mul, nI_add]) (by omega)
  obtain ⟨i3, i4⟩ := ix96 S (x := I 95 38 + 2 + 2 * nI k) (k := f0 + 1 + 2 * k + 1) (by rw [e38, n2, pk_mul, nI_add, nI_add]; congr 1; omega) (by omega)
  have ey : nI (r / 1000 % 10) - ((I 95 39 - I 96 (I 95 38 + 1 + 2 * nI k).toNatClampNeg) * nI (r / 100 % 10) + nI (r / 1 % 10)) / nI (r / 10 % 10) = nI (r / 1000) - nI (lsv q (pOf r) k) := by
    rw [i2, d1, e39, pk_sub hg, ← bg, ← bw, Nat.div_one, ← bn, pk_mul, nI_add, pk_div (by omega) (by omega) (by omega), hs]; rfl
  refine eX12_isSo (wX12_isSo_0 ⟨_, r_digit (d := 1000) (by omega) (by decide) (by decide), S.k 95 12 (by decide), S.k 95 12 (by decide), 96, Q.p 95 0 96 (by decide), S.k 95 12 (by decide), S.k 96 13 (by decide), i1, _, r_digit (d := 100) (by omega) (by decide) (by decide), _, r_digit (d := 1) (by omega) (by decide) (by decide), _, r_digit (d := 10) (by omega) (by decide) (by decide), fun e => ?_, fun y hy => ?_⟩)
  · rw [← bw] at e
    exact absurd e (nI_ne0 (by omega) (by omega))
  · rw [ey] at hy
    have tI : y.toInt = (r / 1000 : Nat) - (lsv q (pOf r) k : Nat) := by rw [hy, pk_sub_toInt (by omega) (by omega)]
    have le0 : y ≤ 0 ↔ r / 1000 ≤ lsv q (pOf r) k := by
      rw [Int32.le_iff_toInt_le, tI]
      show _ ≤ (0 : Int) ↔ _
      omega
    refine ⟨fun e => wX12_isSo_58 ⟨S.k 95 12 (by decide), 96, Q.p 95 0 96 (by decide), S.k 95 12 (by decide), S.k 96 13 (by decide), i3, fun e2 => ⟨?_, rfl⟩, fun e2 => ⟨?_, rfl⟩⟩, fun e => wX12_isSo_58 ⟨S.k 95 12 (by decide), 96, Q.p 95 0 96 (by decide), S.k 95 12 (by decide), S.k 96 13 (by decide), i3, fun e2 => ⟨?_, rfl⟩, fun e2 => ⟨?_, rfl⟩⟩⟩
    · rw [i4, d2, n0, nI_eq (by decide) (by omega)] at e2
      rw [le0] at e
      unfold soB
      rw [decide_eq_false (by omega)]; rfl
    · rw [i4, d2, n0, nI_eq (by decide) (by omega)] at e2
      rw [le0] at e
      unfold soB
      rw [decide_eq_true (by omega)]; rfl
    · rw [le0] at e
      rw [i4, d2, hy, pk_sub (by omega), nI_eq (by omega) (by omega)] at e2
      unfold soB
      rw [decide_eq_false e2]; rfl
    · rw [le0] at e
      rw [i4, d2, hy, pk_sub (by omega), nI_eq (by omega) (by omega)] at e2
      unfold soB
      rw [decide_eq_true e2]; rfl
theorem r_notSo {r : Nat} (S : Sg g) (Q : Sp P) (W : GW q) (D : MgD I f0 q) (hr : r < 10000) (h : isR r = true) : Cl mX12_notSo [.ref 95, .int (nI r)] (g, I, P) (some (.int (nI (nS q r)))) (g, I, P) := by
  have hn := W.1
  obtain ⟨i1, i2⟩ := ix96 S (x := I 95 38) (k := f0) D.2.1 (by have := D.1; omega)
  have key : ∀ m k, k + m = q.1 → Zt none mX12_notSo 0 0 4 [(0, .ref 95), (1, .int (nI r)), (2, .int (nI (k - htn q (r / 1000) (pOf r) k))), (3, .int (nI k))] [] (g, I, P) (some (.int (nI (nS q r)))) (g, I, P) := by
    intro m
    induction m with
    | zero =>
      intro k hk
      have hk : k = q.1 := hk
      subst hk
      exact wX12_notSo_4 ⟨S.k 95 12 (by decide), 96, Q.p 95 0 96 (by decide), S.k 95 12 (by decide), S.k 96 13 (by decide), i1, fun _ => ⟨rfl, rfl⟩, fun e => absurd (by rw [i2, D.2.2.2.1]; exact Int32.le_refl _) e⟩
    | succ m ih =>
      intro k hk
      have ih := ih (k + 1) (by omega)
      have hl := htn_le q (r / 1000) (pOf r) k
      have es : htn q (r / 1000) (pOf r) (k + 1) = htn q (r / 1000) (pOf r) k + (if soB q (r / 1000) (pOf r) k = true then 1 else 0) := rfl
      refine wX12_notSo_4 ⟨S.k 95 12 (by decide), 96, Q.p 95 0 96 (by decide), S.k 95 12 (by decide), S.k 96 13 (by decide), i1, fun e => ?_, fun _ => ⟨S.k 95 12 (by decide), _, r_isSo S Q W D hr h (by omega), fun e => ?_, fun e => ?_⟩⟩
      · rw [i2, D.2.2.2.1] at e; exact absurd e (nI_ge (by omega) (by omega))
      · rw [zb_eq] at e
        rw [e] at es
        rw [nI_1, nI_1, show k - htn q (r / 1000) (pOf r) k + 1 = k + 1 - htn q (r / 1000) (pOf r) (k + 1) by rw [es, if_neg (by decide)]; omega]
        exact ih
      · rw [← ne_eq, zb_ne] at e
        rw [e] at es
        rw [nI_1, n0, nI_add, show k - htn q (r / 1000) (pOf r) k + 0 = k + 1 - htn q (r / 1000) (pOf r) (k + 1) by rw [es, if_pos rfl]; omega]
        exact ih
  exact eX12_notSo (wX12_notSo_0 (key q.1 0 (by omega)))
theorem r_placesNotSo {r : Nat} (S : Sg g) (Q : Sp P) (W : GW q) (D : MgD I f0 q) (hr : r < 10000) (h : isR r = true) : Cl mX12_placesNotSo [.ref 95, .int (nI r)] (g, I, P) (some (.int (msn q (r / 1000) (pOf r) q.1))) (g, I, P) := by
  have hn := W.1
  obtain ⟨i1, i2⟩ := ix96 S (x := I 95 38) (k := f0) D.2.1 (by have := D.1; omega)
  have key : ∀ m k, k + m = q.1 → Zt none mX12_placesNotSo 0 0 4 [(0, .ref 95), (1, .int (nI r)), (2, .int (msn q (r / 1000) (pOf r) k)), (3, .int (nI k))] [] (g, I, P) (some (.int (msn q (r / 1000) (pOf r) q.1))) (g, I, P) := by
    intro m
    induction m with
    | zero =>
      intro k hk
      have hk : k = q.1 := hk
      subst hk
      exact wX12_placesNotSo_4 ⟨S.k 95 12 (by decide), 96, Q.p 95 0 96 (by decide), S.k 95 12 (by decide), S.k 96 13 (by decide), i1, fun _ => ⟨rfl, rfl⟩, fun e => absurd (by rw [i2, D.2.2.2.1]; exact Int32.le_refl _) e⟩
    | succ m ih =>
      intro k hk
      have ih := ih (k + 1) (by omega)
      have ih : Zt none mX12_placesNotSo 0 0 4 [(0, .ref 95), (1, .int (nI r)), (2, .int (if soB q (r / 1000) (pOf r) k = true then msn q (r / 1000) (pOf r) k else msn q (r / 1000) (pOf r) k ||| (1 : Int32) <<< (nI (q.2.1 k) &&& 31))), (3, .int (nI (k + 1)))] [] (g, I, P) (some (.int (msn q (r / 1000) (pOf r) q.1))) (g, I, P) := ih
      obtain ⟨i3, i4⟩ := ix96 S (x := I 95 38 + 1 + 2 * nI k) (k := f0 + 1 + 2 * k) (by rw [D.2.1, nI_1, n2, pk_mul, nI_add]) (by have := D.1; omega)
      refine wX12_placesNotSo_4 ⟨S.k 95 12 (by decide), 96, Q.p 95 0 96 (by decide), S.k 95 12 (by decide), S.k 96 13 (by decide), i1, fun e => ?_, fun _ => ⟨S.k 95 12 (by decide), _, r_isSo S Q W D hr h (by omega), fun e => ⟨S.k 95 12 (by decide), 96, Q.p 95 0 96 (by decide), S.k 95 12 (by decide), S.k 96 13 (by decide), i3, fun y hy => ?_⟩, fun e => ?_⟩⟩
      · rw [i2, D.2.2.2.1] at e; exact absurd e (nI_ge (by omega) (by omega))
      · rw [zb_eq] at e
        rw [i4, (D.2.2.2.2 k (by omega)).1] at hy
        rw [if_neg (by rw [e]; decide), ← hy] at ih
        rw [nI_1]; exact ih
      · rw [← ne_eq, zb_ne] at e
        rw [if_pos e] at ih
        rw [nI_1, or_z]; exact ih
  exact eX12_placesNotSo (wX12_placesNotSo_0 (key q.1 0 (by omega)))
theorem r_fewest (S : Sg g) (Q : Sp P) (W : GW q) (D : MgD I f0 q) : Cl mX12_fewest [.ref 95] (g, I, P) (some (.int (nI (q.1 - MM q)))) (g, I, P) := by
  have hn := W.1
  have nS8 : ∀ r, nS q r ≤ 8 := fun r => by unfold nS; omega
  have key : ∀ m r b, r + m = 10000 → 1110 ≤ r → (b = 9 ∨ ∃ r', 1000 ≤ r' ∧ r' < 10000 ∧ isR r' = true ∧ b = nS q r') → (∀ r', 1110 ≤ r' → r' < r → isR r' = true → b ≤ nS q r') → Zt none mX12_fewest 0 0 7 [(0, .ref 95), (1, .int (nI b)), (2, .int (nI r))] [] (g, I, P) (some (.int (nI (q.1 - MM q)))) (g, I, P) := by
    intro m
    induction m with
    | zero =>
      intro r b hr h1 h2 h3
      obtain rfl : r = 10000 := hr
      obtain ⟨s, p, s1, s2, p8, hf⟩ := fit_ex q
      have hd := rl_dec ⟨p, p8⟩
      have hd1 : rl 0 p < 1000 := hd.1
      have hd2 : 110 ≤ rl 0 p := hd.2.2.2
      have hR : isR (rl s p) = true := by rw [rl_s, (r_add s _).2]; exact hd.2.2.1
      have hb : b ≤ q.1 - MM q := by
        have := h3 (rl s p) (by rw [rl_s]; omega) (by rw [rl_s]; omega) hR
        unfold nS at this
        rw [show rl s p / 1000 = s by rw [rl_s]; omega, show pOf (rl s p) = p by rw [rl_s, (r_add s _).1]; exact hd.2.1, (fit_1 hf).2] at this
        exact this
      have hbe : b = q.1 - MM q := by
        rcases h2 with h2 | ⟨r', a1, a2, a3, a4⟩
        · omega
        · have := ht_MM (q := q) a3 a1 a2
          unfold nS at a4
          omega
      rw [hbe]
      exact wX12_fewest_7 ⟨fun _ => ⟨rfl, rfl⟩, fun e => absurd (Int32.le_refl _) e⟩
    | succ m ih =>
      intro r b hr h1 h2 h3
      have hb : b ≤ 9 := by
        rcases h2 with h2 | ⟨r', -, -, -, a4⟩
        · omega
        · have := nS8 r'; omega
      have hs := nS8 r
      cases hR : isR r with
      | false =>
        refine wX12_fewest_7 ⟨fun e => absurd e (nI_ge (b := 10000) (by omega) (by decide)), fun _ => ⟨_, r_isRule (by omega), fun _ => ?_, fun e => ?_⟩⟩
        · rw [nI_1]
          exact ih (r + 1) b (by omega) (by omega) h2 (fun r' a1 a2 a3 => by
            by_cases e : r' = r
            · subst e; rw [hR] at a3; cases a3
            · exact h3 r' a1 (by omega) a3)
        · rw [hR] at e; exact absurd rfl e
      | true =>
        refine wX12_fewest_7 ⟨fun e => absurd e (nI_ge (b := 10000) (by omega) (by decide)), fun _ => ⟨_, r_isRule (by omega), fun e => ?_, fun _ => ⟨S.k 95 12 (by decide), _, r_notSo S Q W D (by omega) hR, fun e => ?_, fun e => ⟨S.k 95 12 (by decide), _, r_notSo S Q W D (by omega) hR, ?_⟩⟩⟩⟩
        · rw [hR] at e; exact absurd e (by decide)
        · rw [nI_leI (by omega) (by omega)] at e
          rw [nI_1]
          exact ih (r + 1) b (by omega) (by omega) h2 (fun r' a1 a2 a3 => by
            by_cases e : r' = r
            · subst e; assumption
            · exact h3 r' a1 (by omega) a3)
        · rw [nI_leI (by omega) (by omega)] at e
          rw [nI_1]
          exact ih (r + 1) (nS q r) (by omega) (by omega) (Or.inr ⟨r, by omega, by omega, hR, rfl⟩) (fun r' a1 a2 a3 => by
            by_cases e : r' = r
            · subst e; omega
            · have := h3 r' a1 (by omega) a3; omega)
  exact eX12_fewest (wX12_fewest_0 (key 8890 1110 9 (by omega) (by omega) (Or.inl rfl) (fun r' a1 a2 _ => by omega)))
/-- the years of the rules below r that fit -/
def yR (q : GD) (r v : Nat) : Prop := ∃ r', 1110 ≤ r' ∧ r' < r ∧ fR q r' = true ∧ v = yr q (pOf r')
theorem yR_B (q : GD) (v : Nat) : yR q 10000 v ↔ yB q 810 v := by
  constructor
  · rintro ⟨r, h1, h2, h3, h4⟩
    obtain ⟨a1, a2⟩ := fR_1 h3
    exact ⟨r / 1000, pOf r, by omega, (r_back a1).1, a2, h4⟩
  · rintro ⟨s, p, h1, h2, h3, h4⟩
    have hd := rl_dec ⟨p, h2⟩
    have hd1 : rl 0 p < 1000 := hd.1
    have hd2 : 110 ≤ rl 0 p := hd.2.2.2
    have s1 := (fit_1 h3).1
    refine ⟨rl s p, by rw [rl_s]; omega, by rw [rl_s]; omega, by rw [rl_f h2]; exact h3, ?_⟩
    rw [h4, show pOf (rl s p) = p by rw [rl_s, (r_add s _).1]; exact hd.2.1]
theorem r_ages {y : Int32} (S : Sg g) (Q : Sp P) (W : GW q) (D : MgD I f0 q) : ∃ x, Zt none mX12_age 0 0 23 [(0, .ref 95), (2, .int y), (3, .int (nI (q.1 - MM q))), (4, .int (-1)), (5, .int 1110)] [] (g, I, P) (some (.int x)) (g, I, P) ∧ Ext y (yB q 810) x := by
  have hn := W.1
  have nS8 : ∀ r, nS q r ≤ 8 := fun r => by unfold nS; omega
  have key : ∀ m r x, r + m = 10000 → 1110 ≤ r → Ext y (yR q r) x → ∃ w, Zt none mX12_age 0 0 23 [(0, .ref 95), (2, .int y), (3, .int (nI (q.1 - MM q))), (4, .int x), (5, .int (nI r))] [] (g, I, P) (some (.int w)) (g, I, P) ∧ Ext y (yB q 810) w := by
    intro m
    induction m with
    | zero =>
      intro r x hr h1 h
      obtain rfl : r = 10000 := hr
      exact ⟨x, wX12_age_23 ⟨fun _ => ⟨rfl, rfl⟩, fun e => absurd (Int32.le_refl _) e⟩, h.same (fun v => (yR_B q v).symm)⟩
    | succ m ih =>
      intro r x hr h1 h
      have hs := nS8 r
      have nof : fR q r = false → ∀ v, yR q (r + 1) v ↔ yR q r v := by
        intro e v
        constructor
        · rintro ⟨r', a1, a2, a3, a4⟩
          by_cases e2 : r' = r
          · subst e2; rw [e] at a3; cases a3
          · exact ⟨r', a1, by omega, a3, a4⟩
        · rintro ⟨r', a1, a2, a3, a4⟩
          exact ⟨r', a1, by omega, a3, a4⟩
      cases hR : isR r with
      | false =>
        obtain ⟨w, z, hw⟩ := ih (r + 1) x (by omega) (by omega) (h.same (nof (by unfold fR; rw [hR]; rfl)))
        refine ⟨w, wX12_age_23 ⟨fun e => absurd e (nI_ge (b := 10000) (by omega) (by decide)), fun _ => ⟨_, r_isRule (by omega), fun _ => by rw [nI_1]; exact z, fun e => ?_⟩⟩, hw⟩
        rw [hR] at e; exact absurd rfl e
      | true =>
        have ef := nS_fit (q := q) hR (by omega) (by omega)
        by_cases hN : nS q r = q.1 - MM q
        · rw [decide_eq_true hN] at ef
          obtain ⟨p8, bg, bw, bn, -⟩ := r_back hR
          have hy := yr_le (q := q) W p8
          have ey : I 95 39 * nI (r / 100 % 10) + nI (r / 1 % 10) = nI (yr q (pOf r)) := by rw [D.2.2.1, Nat.div_one, ← bg, ← bn, pk_mul, nI_add]; rfl
          have eY : ∀ v, yR q (r + 1) v ↔ yR q r v ∨ v = yr q (pOf r) := by
            intro v
            constructor
            · rintro ⟨r', a1, a2, a3, a4⟩
              by_cases e2 : r' = r
              · subst e2; exact Or.inr a4
              · exact Or.inl ⟨r', a1, by omega, a3, a4⟩
            · rintro (⟨r', a1, a2, a3, a4⟩ | a4)
              · exact ⟨r', a1, by omega, a3, a4⟩
              · exact ⟨r, h1, by omega, ef, a4⟩
          have go : ∀ x', Ext y (yR q (r + 1)) x' → ∃ w, Zt none mX12_age 0 0 23 [(0, .ref 95), (2, .int y), (3, .int (nI (q.1 - MM q))), (4, .int x'), (5, .int (nI r + 1))] [] (g, I, P) (some (.int w)) (g, I, P) ∧ Ext y (yB q 810) w := by
            intro x' h'
            rw [nI_1]
            exact ih (r + 1) x' (by omega) (by omega) h'
          by_cases hx : x = -1
          · obtain ⟨w, z, hw⟩ := go _ (h.new hy hx eY)
            refine ⟨w, wX12_age_23 ⟨fun e => absurd e (nI_ge (b := 10000) (by omega) (by decide)), fun _ => ⟨_, r_isRule (by omega), fun e => by rw [hR] at e; exact absurd e (by decide), fun _ => ⟨S.k 95 12 (by decide), _, r_notSo S Q W D (by omega) hR, fun _ => ⟨S.k 95 12 (by decide), _, r_digit (d := 100) (by omega) (by decide) (by decide), _, r_digit (d := 1) (by omega) (by decide) (by decide), ?_⟩, fun e => absurd (by rw [hN]) e⟩⟩⟩, hw⟩
            rw [ey]
            exact ⟨fun _ => z, fun e => absurd hx e⟩
          · by_cases h0 : y = 0
            · by_cases hc : x ≤ nI (yr q (pOf r))
              · obtain ⟨w, z, hw⟩ := go _ (h.keep hy hx eY (fun _ => hc) (fun e => absurd h0 e))
                refine ⟨w, wX12_age_23 ⟨fun e => absurd e (nI_ge (b := 10000) (by omega) (by decide)), fun _ => ⟨_, r_isRule (by omega), fun e => by rw [hR] at e; exact absurd e (by decide), fun _ => ⟨S.k 95 12 (by decide), _, r_notSo S Q W D (by omega) hR, fun _ => ⟨S.k 95 12 (by decide), _, r_digit (d := 100) (by omega) (by decide) (by decide), _, r_digit (d := 1) (by omega) (by decide) (by decide), ?_⟩, fun e => absurd (by rw [hN]) e⟩⟩⟩, hw⟩
                rw [ey]
                exact ⟨fun e => absurd e hx, fun _ => ⟨fun _ => ⟨fun _ => z, fun e => absurd hc e⟩, fun e => absurd h0 e⟩⟩
              · obtain ⟨w, z, hw⟩ := go _ (h.take hy hx eY (fun _ => hc) (fun e => absurd h0 e))
                refine ⟨w, wX12_age_23 ⟨fun e => absurd e (nI_ge (b := 10000) (by omega) (by decide)), fun _ => ⟨_, r_isRule (by omega), fun e => by rw [hR] at e; exact absurd e (by decide), fun _ => ⟨S.k 95 12 (by decide), _, r_notSo S Q W D (by omega) hR, fun _ => ⟨S.k 95 12 (by decide), _, r_digit (d := 100) (by omega) (by decide) (by decide), _, r_digit (d := 1) (by omega) (by decide) (by decide), ?_⟩, fun e => absurd (by rw [hN]) e⟩⟩⟩, hw⟩
                rw [ey]
                exact ⟨fun e => absurd e hx, fun _ => ⟨fun _ => ⟨fun e => absurd e hc, fun _ => z⟩, fun e => absurd h0 e⟩⟩
            · by_cases hc : nI (yr q (pOf r)) ≤ x
              · obtain ⟨w, z, hw⟩ := go _ (h.keep hy hx eY (fun e => absurd e h0) (fun _ => hc))
                refine ⟨w, wX12_age_23 ⟨fun e => absurd e (nI_ge (b := 10000) (by omega) (by decide)), fun _ => ⟨_, r_isRule (by omega), fun e => by rw [hR] at e; exact absurd e (by decide), fun _ => ⟨S.k 95 12 (by decide), _, r_notSo S Q W D (by omega) hR, fun _ => ⟨S.k 95 12 (by decide), _, r_digit (d := 100) (by omega) (by decide) (by decide), _, r_digit (d := 1) (by omega) (by decide) (by decide), ?_⟩, fun e => absurd (by rw [hN]) e⟩⟩⟩, hw⟩
                rw [ey]
                exact ⟨fun e => absurd e hx, fun _ => ⟨fun e => absurd e h0, fun _ => ⟨fun _ => z, fun e => absurd hc e⟩⟩⟩
              · obtain ⟨w, z, hw⟩ := go _ (h.take hy hx eY (fun e => absurd e h0) (fun _ => hc))
                refine ⟨w, wX12_age_23 ⟨fun e => absurd e (nI_ge (b := 10000) (by omega) (by decide)), fun _ => ⟨_, r_isRule (by omega), fun e => by rw [hR] at e; exact absurd e (by decide), fun _ => ⟨S.k 95 12 (by decide), _, r_notSo S Q W D (by omega) hR, fun _ => ⟨S.k 95 12 (by decide), _, r_digit (d := 100) (by omega) (by decide) (by decide), _, r_digit (d := 1) (by omega) (by decide) (by decide), ?_⟩, fun e => absurd (by rw [hN]) e⟩⟩⟩, hw⟩
                rw [ey]
                exact ⟨fun e => absurd e hx, fun _ => ⟨fun e => absurd e h0, fun _ => ⟨fun e => absurd e hc, fun _ => z⟩⟩⟩
        · rw [decide_eq_false hN] at ef
          obtain ⟨w, z, hw⟩ := ih (r + 1) x (by omega) (by omega) (h.same (nof ef))
          refine ⟨w, wX12_age_23 ⟨fun e => absurd e (nI_ge (b := 10000) (by omega) (by decide)), fun _ => ⟨_, r_isRule (by omega), fun e => by rw [hR] at e; exact absurd e (by decide), fun _ => ⟨S.k 95 12 (by decide), _, r_notSo S Q W D (by omega) hR, fun e => ?_, fun _ => by rw [nI_1]; exact z⟩⟩⟩, hw⟩
          rw [nI_eq (by omega) (by omega)] at e
          exact absurd e hN
  exact key 8890 1110 (-1) (by omega) (by omega) (Or.inl ⟨rfl, fun v hv => by obtain ⟨r, h1, h2, -⟩ := hv; omega⟩)
theorem b_age (L : LI g I P t im) (x1 y : Int32) : ∃ (w : Int32) (I1 : Nat → Nat → Int32) (P1 : Nat → Nat → Option Nat) (J : Nat → Nat → Int32), Cl mX11_age [.ref 0, .int x1, .int y] (g, I, P) (some (.int w)) (g, I1, P1) ∧ Kp I I1 ∧ KpP P P1 ∧ Cl mX12_age [.ref 95, .int x1, .int y] (g, I1, P1) (some (.int w)) (g, J, P1) ∧ Km I1 J := by
  have L0 := L
  obtain ⟨S, Q, W, D, M, -⟩ := L
  have hn := W.2.2.2.2.1
  cases hp : pk x1 (tNg t) with
  | none =>
    exact ⟨-1, I, P, I, eX11_age (wX11_age_0 ⟨S.k 0 11 (by decide), 1, Q.p 0 0 1 (by decide), S.k 1 9 (by decide), _, c_logN L0 hp, fun _ => ⟨rfl, rfl⟩, fun b hb => (nomatch hb)⟩), Kp.rf I, KpP.rf Q, eX12_age (wX12_age_0 ⟨S.k 95 12 (by decide), _, _, r_isLog0 S Q W M hp, fun q => absurd rfl q, fun _ => ⟨rfl, rfl⟩⟩), Km.rf I⟩
  | some i =>
    have hi : i < tNg t := (pk_some (by omega) hp).1
    have hG := W.2.2.2.2.2 i hi
    have T := LgS_i S Q (i := i) (by omega)
    obtain ⟨I1, zw, R, k1, k2⟩ := c_weigh S Q hG (by omega) T (D.2.2.2.2.2 i hi)
    obtain ⟨x, zy, hE⟩ := c_years (y := y) S k2.2 hG R
    have M1 : MtA I1 0 t := M.keep (k1 96 (by decide))
    obtain ⟨J, hI, DG, f⟩ := r_isLog S k2.2 W M1 hp
    obtain ⟨x', zr, hE'⟩ := r_ages (y := y) S k2.2 hG DG
    have ex := hE'.u hE (fun _ => Iff.rfl)
    subst ex
    refine ⟨x', I1, _, J, eX11_age (wX11_age_0 ⟨S.k 0 11 (by decide), 1, Q.p 0 0 1 (by decide), S.k 1 9 (by decide), _, c_logY L0 hp, fun q => (nomatch q), fun b hb => ?_⟩), k1, k2, eX12_age (wX12_age_0 ⟨S.k 95 12 (by decide), _, _, hI, fun _ => ⟨S.k 95 12 (by decide), _, r_fewest S k2.2 hG DG, zr⟩, fun e => absurd e (by decide)⟩), f.m⟩
    cases hb
    exact ⟨S.k 0 11 (by decide), 88, Q.p 0 6 88 (by decide), S.k 88 7 (by decide), _, _, zw, S.k 0 11 (by decide), 88, k2.2.p 0 6 88 (by decide), S.k 88 7 (by decide), _, zy, rfl, rfl⟩
/-- all rules below r that fit have a fact at k that isn't so -/
def MR (q : GD) (r k : Nat) : Prop := ∀ r', 1110 ≤ r' → r' < r → fR q r' = true → tb (msn q (r' / 1000) (pOf r') q.1) k = true
theorem MR_A {k : Nat} (W : GW q) (hk : k < 32) : MR q 10000 k ↔ k < 12 ∧ MA q 810 0 k := by
  have go : ∀ s p, s ≤ 9 → p < 810 → fitB q s p = true → MR q 10000 k → tb (msn q s p q.1) k = true := by
    intro s p h1 h2 h3 h
    have hd := rl_dec ⟨p, h2⟩
    have hd1 : rl 0 p < 1000 := hd.1
    have hd2 : 110 ≤ rl 0 p := hd.2.2.2
    have s1 := (fit_1 h3).1
    have := h (rl s p) (by rw [rl_s]; omega) (by rw [rl_s]; omega) (by rw [rl_f h2]; exact h3)
    rw [show rl s p / 1000 = s by rw [rl_s]; omega, show pOf (rl s p) = p by rw [rl_s, (r_add s _).1]; exact hd.2.1] at this
    exact this
  constructor
  · intro h
    obtain ⟨s, p, s1, s2, p8, hf⟩ := fit_ex q
    exact ⟨msn_hi W hk q.1 (Nat.le_refl _) (go s p s2 p8 hf h), fun s' p' h1 h2 h3 => go s' p' h1 (by omega) h3 h⟩
  · intro h r h1 h2 h3
    obtain ⟨a1, a2⟩ := fR_1 h3
    exact h.2 _ _ (by omega) (Or.inl (r_back a1).1) a2
theorem r_forge {x : Int32} (S : Sg g) (Q : Sp P) (W : GW q) (D : MgD I f0 q) (hx : x = 1 ∨ x = 2 ∨ ¬ x < 10) : ∃ w, Zt none mX12_forged 0 0 47 [(0, .ref 95), (2, .int x), (3, .int (nI (q.1 - MM q))), (4, .int 0), (5, .int (-1)), (6, .int 1110)] [] (g, I, P) (some (.int w)) (g, I, P) ∧ (x = 1 → w = nI (hm q 810)) ∧ (x = 2 → ∀ k, k < 32 → (tb w k = true ↔ k < 12 ∧ MA q 810 0 k)) ∧ (¬ x < 10 → w = fnd q (x - 10) 9000 1010) := by
  have hn := W.1
  have nS8 : ∀ r, nS q r ≤ 8 := fun r => by unfold nS; omega
  have key : ∀ m r X, r + m = 10000 → 1110 ≤ r → (∀ k, k < 32 → (tb X k = true ↔ MR q r k)) → ∃ w, Zt none mX12_forged 0 0 47 [(0, .ref 95), (2, .int x), (3, .int (nI (q.1 - MM q))), (4, .int (nI (cR q r))), (5, .int X), (6, .int (nI r))] [] (g, I, P) (some (.int w)) (g, I, P) ∧ (x = 1 → w = nI (hm q 810)) ∧ (x = 2 → ∀ k, k < 32 → (tb w k = true ↔ k < 12 ∧ MA q 810 0 k)) ∧ (¬ x < 10 → w = fnd q (x - 10) (10010 - r) r) := by
    intro m
    induction m with
    | zero =>
      intro r X hr h1 h
      obtain rfl : r = 10000 := hr
      by_cases x1 : x = 1
      · refine ⟨_, wX12_forged_47 ⟨fun _ => ⟨fun e => absurd x1 e, fun _ => ⟨rfl, rfl⟩⟩, fun e => absurd (Int32.le_refl _) e⟩, fun _ => by rw [cR_hm], fun e => ?_, fun e => ?_⟩
        · rw [x1] at e; exact absurd e (by decide)
        · rw [x1] at e; exact absurd (by decide) e
      · by_cases x2 : x = 2
        · refine ⟨_, wX12_forged_47 ⟨fun _ => ⟨fun _ => ⟨fun e => absurd x2 e, fun _ => ⟨rfl, rfl⟩⟩, fun e => absurd e x1⟩, fun e => absurd (Int32.le_refl _) e⟩, fun e => absurd e x1, fun _ k hk => by rw [h k hk, MR_A W hk], fun e => ?_⟩
          rw [x2] at e; exact absurd (by decide) e
        · refine ⟨_, wX12_forged_47 ⟨fun _ => ⟨fun _ => ⟨fun _ => ⟨rfl, rfl⟩, fun e => absurd e x2⟩, fun e => absurd e x1⟩, fun e => absurd (Int32.le_refl _) e⟩, fun e => absurd e x1, fun e => absurd e x2, fun _ => ?_⟩
          rw [fnd_to (b := 10010) (by omega) (by omega) (fun r _ _ => fR_f (by omega))]; rfl
    | succ m ih =>
      intro r X hr h1 h
      have hs := nS8 r
      have hc := cR_le q r
      have ec : cR q (r + 1) = cR q r + (if fR q r = true then 1 else 0) := rfl
      have efn : ∀ k, fnd q k (10010 - r) r = if fR q r = true ∧ nI (cR q r) = k then nI r else fnd q k (10010 - (r + 1)) (r + 1) := by
        intro k
        rw [show 10010 - r = (10010 - (r + 1)) + 1 by omega]; rfl
      have nof : fR q r = false → ∀ k, MR q (r + 1) k ↔ MR q r k := by
        intro e k
        constructor
        · intro h r' a1 a2 a3; exact h r' a1 (by omega) a3
        · intro h r' a1 a2 a3
          by_cases e2 : r' = r
          · subst e2; rw [e] at a3; cases a3
          · exact h r' a1 (by omega) a3
      have goF : fR q r = false → ∃ w, Zt none mX12_forged 0 0 47 [(0, .ref 95), (2, .int x), (3, .int (nI (q.1 - MM q))), (4, .int (nI (cR q r))), (5, .int X), (6, .int (nI r + 1))] [] (g, I, P) (some (.int w)) (g, I, P) ∧ (x = 1 → w = nI (hm q 810)) ∧ (x = 2 → ∀ k, k < 32 → (tb w k = true ↔ k < 12 ∧ MA q 810 0 k)) ∧ (¬ x < 10 → w = fnd q (x - 10) (10010 - r) r) := by
        intro e
        obtain ⟨w, z, a1, a2, a3⟩ := ih (r + 1) X (by omega) (by omega) (fun k hk => by rw [h k hk, nof e])
        rw [ec, e, if_neg (by decide), Nat.add_zero, ← nI_1] at z
        exact ⟨w, z, a1, a2, fun e2 => by rw [efn, if_neg (by rw [e]; simp)]; exact a3 e2⟩
      cases hR : isR r with
      | false =>
        obtain ⟨w, z, a⟩ := goF (by unfold fR; rw [hR]; rfl)
        refine ⟨w, wX12_forged_47 ⟨fun e => absurd e (nI_ge (b := 10000) (by omega) (by decide)), fun _ => ⟨_, r_isRule (by omega), fun _ => z, fun e => ?_⟩⟩, a⟩
        rw [hR] at e; exact absurd rfl e
      | true =>
        have ef := nS_fit (q := q) hR (by omega) (by omega)
        by_cases hN : nS q r = q.1 - MM q
        · rw [decide_eq_true hN] at ef
          by_cases hh : ¬ x < 10 ∧ nI (cR q r) = x - 10
          · refine ⟨nI r, wX12_forged_47 ⟨fun e => absurd e (nI_ge (b := 10000) (by omega) (by decide)), fun _ => ⟨_, r_isRule (by omega), fun e => by rw [hR] at e; exact absurd e (by decide), fun _ => ⟨S.k 95 12 (by decide), _, r_notSo S Q W D (by omega) hR, fun _ => ⟨fun e => absurd e hh.1, fun _ => ⟨fun e => absurd hh.2 e, fun _ => ⟨rfl, rfl⟩⟩⟩, fun e => absurd (by rw [hN]) e⟩⟩⟩, fun e => ?_, fun e => ?_, fun _ => by rw [efn, if_pos ⟨ef, hh.2⟩]⟩
            · rw [e] at hh; exact absurd (by decide) hh.1
            · rw [e] at hh; exact absurd (by decide) hh.1
          · obtain ⟨w, z, a1, a2, a3⟩ := ih (r + 1) (X &&& msn q (r / 1000) (pOf r) q.1) (by omega) (by omega) (fun k hk => by
              rw [tb_and hk, Bool.and_eq_true, h k hk]
              constructor
              · rintro ⟨b1, b2⟩ r' c1 c2 c3
                by_cases e2 : r' = r
                · subst e2; exact b2
                · exact b1 r' c1 (by omega) c3
              · intro b
                exact ⟨fun r' c1 c2 c3 => b r' c1 (by omega) c3, b r h1 (by omega) ef⟩)
            rw [ec, ef, if_pos rfl, ← nI_1, ← nI_1] at z
            have b3 : ¬ x < 10 → w = fnd q (x - 10) (10010 - r) r := fun e2 => by rw [efn, if_neg (fun e => hh ⟨e2, e.2⟩)]; exact a3 e2
            exact ⟨w, wX12_forged_47 ⟨fun e => absurd e (nI_ge (b := 10000) (by omega) (by decide)), fun _ => ⟨_, r_isRule (by omega), fun e => by rw [hR] at e; exact absurd e (by decide), fun _ => ⟨S.k 95 12 (by decide), _, r_notSo S Q W D (by omega) hR, fun _ => ⟨fun _ => ⟨S.k 95 12 (by decide), _, r_placesNotSo S Q W D (by omega) hR, z⟩, fun e1 => ⟨fun _ => ⟨S.k 95 12 (by decide), _, r_placesNotSo S Q W D (by omega) hR, z⟩, fun e2 => absurd ⟨e1, e2⟩ hh⟩⟩, fun e => absurd (by rw [hN]) e⟩⟩⟩, a1, a2, b3⟩
        · rw [decide_eq_false hN] at ef
          obtain ⟨w, z, a⟩ := goF ef
          refine ⟨w, wX12_forged_47 ⟨fun e => absurd e (nI_ge (b := 10000) (by omega) (by decide)), fun _ => ⟨_, r_isRule (by omega), fun e => by rw [hR] at e; exact absurd e (by decide), fun _ => ⟨S.k 95 12 (by decide), _, r_notSo S Q W D (by omega) hR, fun e => ?_, fun _ => z⟩⟩⟩, a⟩
          rw [nI_eq (by omega) (by omega)] at e
          exact absurd e hN
  have c0 : cR q 1110 = 0 := by
    rw [cR_skip (a := 1010) (b := 1110) (by omega) (fun r _ _ => fR_f (by omega)), cR_0]
  obtain ⟨w, z, a1, a2, a3⟩ := key 8890 1110 (-1) (by omega) (by omega) (fun k hk => by
    rw [show tb (-1) k = true from tb_m1 ⟨k, hk⟩]
    exact ⟨fun _ r' c1 c2 c3 => by omega, fun _ => rfl⟩)
  rw [c0] at z
  refine ⟨w, z, a1, a2, fun e => ?_⟩
  rw [a3 e]
  exact (fnd_to (a := 1010) (b := 1110) (E := 10010) (by omega) (by omega) (fun r _ _ => fR_f (by omega))).symm
theorem b_forged (L : LI g I P t im) (x1 x2 : Int32) : ∃ (w : Int32) (I1 : Nat → Nat → Int32) (P1 : Nat → Nat → Option Nat) (J : Nat → Nat → Int32), Cl mX11_forged [.ref 0, .int x1, .int x2] (g, I, P) (some (.int w)) (g, I1, P1) ∧ Kp I I1 ∧ KpP P P1 ∧ Cl mX12_forged [.ref 95, .int x1, .int x2] (g, I1, P1) (some (.int w)) (g, J, P1) ∧ Km I1 J := by
  have L0 := L
  obtain ⟨S, Q, W, D, M, -⟩ := L
  have hn := W.2.2.2.2.1
  cases hp : pk x1 (tNg t) with
  | none =>
    exact ⟨-2, I, P, I, eX11_forged (wX11_forged_0 ⟨S.k 0 11 (by decide), 1, Q.p 0 0 1 (by decide), S.k 1 9 (by decide), _, c_logN L0 hp, fun _ => ⟨rfl, rfl⟩, fun b hb => (nomatch hb)⟩), Kp.rf I, KpP.rf Q, eX12_forged (wX12_forged_0 ⟨S.k 95 12 (by decide), _, _, r_isLog0 S Q W M hp, fun _ => ⟨rfl, rfl⟩, fun q => absurd rfl q⟩), Km.rf I⟩
  | some i =>
    have hi : i < tNg t := (pk_some (by omega) hp).1
    have hG := W.2.2.2.2.2 i hi
    have T := LgS_i S Q (i := i) (by omega)
    obtain ⟨I1, zw, R, k1, k2⟩ := c_weigh S Q hG (by omega) T (D.2.2.2.2.2 i hi)
    have M1 : MtA I1 0 t := M.keep (k1 96 (by decide))
    obtain ⟨J, hI, DG, f⟩ := r_isLog S k2.2 W M1 hp
    have face : ∀ w, Cl mX7_judge [.ref 88, .int x2] (g, I1, zU P 88 0 (some (21 + 16 * i))) (some (.int w)) (g, I1, zU P 88 0 (some (21 + 16 * i))) → Cl mX11_forged [.ref 0, .int x1, .int x2] (g, I, P) (some (.int w)) (g, I1, zU P 88 0 (some (21 + 16 * i))) := by
      intro w z
      refine eX11_forged (wX11_forged_0 ⟨S.k 0 11 (by decide), 1, Q.p 0 0 1 (by decide), S.k 1 9 (by decide), _, c_logY L0 hp, fun q => (nomatch q), fun b hb => ?_⟩)
      cases hb
      exact ⟨S.k 0 11 (by decide), 88, Q.p 0 6 88 (by decide), S.k 88 7 (by decide), _, _, zw, S.k 0 11 (by decide), 88, k2.2.p 0 6 88 (by decide), S.k 88 7 (by decide), _, z, rfl, rfl⟩
    have isIn := r_isIn (g := g) (I := J) (P := zU P 88 0 (some (21 + 16 * i))) (x := x2) (lo := 3) (hi := 9)
    by_cases h0 : x2 = 0
    · refine ⟨nI ((tG t i).1 - MM (tG t i)), I1, _, J, face _ (eX7_judge (wX7_judge_0 ⟨fun _ => ⟨S.k 88 7 (by decide), _, R.1.2.1, R.1.2.2.1.1, S.k 88 7 (by decide), ?_, rfl⟩, fun e => ?_, fun e => ?_, fun e => absurd h0 e⟩)), k1, k2, eX12_forged (wX12_forged_0 ⟨S.k 95 12 (by decide), _, _, hI, fun e => absurd e (by decide), fun _ => ⟨fun e => ?_, fun _ => ⟨_, isIn, fun _ => ⟨S.k 95 12 (by decide), _, r_fewest S k2.2 hG DG, fun e => absurd h0 e, fun _ => ⟨rfl, rfl⟩⟩, fun e => ?_⟩⟩⟩), f.m⟩
      · rw [R.1.2.2.2.1.1, R.2.1, pk_sub (MM_le _)]
      · rw [h0] at e; exact absurd e (by decide)
      · rw [h0] at e; exact absurd e (by decide)
      · rw [h0] at e; exact absurd e (by decide)
      · rw [h0] at e; exact absurd (by decide) e
    · by_cases h3 : x2 = 1 ∨ x2 = 2 ∨ ¬ x2 < 10
      · obtain ⟨w, z, a1, a2, a3⟩ := r_forge S k2.2 hG DG h3
        have zr : Cl mX12_forged [.ref 95, .int x1, .int x2] (g, I1, zU P 88 0 (some (21 + 16 * i))) (some (.int w)) (g, J, zU P 88 0 (some (21 + 16 * i))) := by
          refine eX12_forged (wX12_forged_0 ⟨S.k 95 12 (by decide), _, _, hI, fun e => absurd e (by decide), fun _ => ⟨fun e => ?_, fun _ => ⟨_, isIn, fun _ => ⟨S.k 95 12 (by decide), _, r_fewest S k2.2 hG DG, fun _ => z, fun e => absurd e h0⟩, fun e => ?_⟩⟩⟩)
          · rcases h3 with h | h | h
            · rw [h] at e; exact absurd e (by decide)
            · rw [h] at e; exact absurd e (by decide)
            · exact absurd (Int32.lt_trans e (by decide)) h
          · rw [← ne_eq, zb_ne, decide_eq_true_eq] at e
            rcases h3 with h | h | h
            · rw [h] at e; exact absurd e (by decide)
            · rw [h] at e; exact absurd e (by decide)
            · rw [Int32.lt_iff_toInt_lt] at h
              have e2 := e.2
              rw [Int32.lt_iff_toInt_lt] at e2
              have c1 : (10 : Int32).toInt = 10 := by decide
              have c2 : (9 : Int32).toInt = 9 := by decide
              omega
        refine ⟨w, I1, _, J, face _ (eX7_judge (wX7_judge_0 ⟨fun e => absurd e h0, fun e => ⟨S.k 88 7 (by decide), _, c_howMany S k2.2 hG R, by rw [a1 e], rfl⟩, fun e => ?_, fun _ n1 n2 => ⟨fun e => ?_, fun e => ⟨S.k 88 7 (by decide), _, c_ruleOf S k2.2 hG R, by rw [a3 e], rfl⟩⟩⟩)), k1, k2, zr, f.m⟩
        · obtain ⟨X, zX, hX⟩ := c_missedByAll S k2.2 hG R
          have : X = w := tb_ext (fun k hk => by
            have b1 := hX k hk
            have b2 := a2 e k hk
            rw [← b2] at b1
            exact Bool.eq_iff_iff.mpr b1)
          rw [← this]
          exact ⟨S.k 88 7 (by decide), _, zX, rfl, rfl⟩
        · rcases h3 with h | h | h
          · exact absurd h n1
          · exact absurd h n2
          · exact absurd e h
      · have h1 : ¬ x2 = 1 := fun e => h3 (Or.inl e)
        have h2 : ¬ x2 = 2 := fun e => h3 (Or.inr (Or.inl e))
        have h10 : x2 < 10 := Decidable.of_not_not (fun e => h3 (Or.inr (Or.inr e)))
        refine ⟨-2, I1, _, J, face _ (eX7_judge (wX7_judge_0 ⟨fun e => absurd e h0, fun e => absurd e h1, fun e => absurd e h2, fun _ _ _ => ⟨fun _ => ⟨rfl, rfl⟩, fun e => absurd h10 e⟩⟩)), k1, k2, eX12_forged (wX12_forged_0 ⟨S.k 95 12 (by decide), _, _, hI, fun e => absurd e (by decide), fun _ => ⟨fun _ => ⟨rfl, rfl⟩, fun e => ⟨_, isIn, fun e2 => ?_, fun _ => ⟨rfl, rfl⟩⟩⟩⟩), f.m⟩
        exfalso
        obtain ⟨k, hk, rfl⟩ := nI_of e
        rw [show (10 : Int32) = nI 10 from rfl, nI_ltI hk (by decide)] at h10
        rw [n0, nI_eq hk (by decide)] at h0
        rw [n1, nI_eq hk (by decide)] at h1
        rw [n2, nI_eq hk (by decide)] at h2
        rw [zb_eq, decide_eq_false_iff_not, show (3 : Int32) = nI 3 from rfl, show (9 : Int32) = nI 9 from rfl, nI_ltI hk (by decide), nI_ltI (by decide) hk] at e2
        omega
end REFR
