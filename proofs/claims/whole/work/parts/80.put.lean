/-! ===== a text comes to what is told ===== -/
theorem hx_of {T : Tp} {y : PS} {F : FS} (Y : PW y) (h : (pfin T 0 (y, F)).1 = 0) : HX (yH y) := by
  have hNn := Y.1.2.1
  have hF : F.1 = 0 := by
    by_cases h0 : F.1 = 0
    · exact h0
    · unfold pfin at h
      rw [if_neg (fun e => h0 e.1)] at h
      exact h
  unfold pfin at h
  rw [if_pos ⟨hF, rfl⟩] at h
  have h : (if hN (yH y) < yF y then ((4, nI T.1) : FS) else if twoAl (yH y) = true then (5, nI T.1) else F).1 = 0 := h
  have hfar : yF y ≤ hN (yH y) := by
    by_cases e : hN (yH y) < yF y
    · rw [if_pos e] at h; exact absurd h (by decide : ¬ (4 : Int32) = 0)
    · omega
  rw [if_neg (by omega)] at h
  have htw : twoAl (yH y) = false := by
    cases e : twoAl (yH y) with
    | false => rfl
    | true => rw [e, if_pos rfl] at h; exact absurd h (by decide : ¬ (5 : Int32) = 0)
  have no : ∀ v w, v < w → w < hN (yH y) → ¬ (hZ (yH y) v = hZ (yH y) w ∧ hLcp (yH y) v w = hZ (yH y) w) := by
    intro v w h1 h2 h3
    unfold twoAl at htw
    have e := anyB_t (p := fun w => anyB (fun v => decide (hZ (yH y) v = hZ (yH y) w ∧ hLcp (yH y) v w = hZ (yH y) w)) w) (hN (yH y)) w h2 (anyB_t (p := fun v => decide (hZ (yH y) v = hZ (yH y) w ∧ hLcp (yH y) v w = hZ (yH y) w)) w v h1 (decide_eq_true h3))
    rw [e] at htw
    cases htw
  refine ⟨fun v w hv hw hvw h3 => ?_, fun w hw k hk ht => ?_, fun q hq k hk ht => ?_, fun w hw => (Y.2.2.1 w (by omega)).1, fun q hq => (Y.2.2.2.1 q hq).1⟩
  · by_cases e : v < w
    · exact no v w e hw ⟨h3.1, by rw [h3.2, h3.1]⟩
    · exact no w v (by omega) hv ⟨h3.1.symm, by rw [hLcp_comm]; exact h3.2⟩
  · have := (Y.2.2.1 w (by omega)).2 k hk ht; omega
  · have := (Y.2.2.2.1 q hq).2 k hk ht; omega
def tBase (t : TD) (G : FS) : TD := ((0, tByte t), G, t.2.2)
def cnS (t : TD) (so : Nat) : Nat := if so = 0 then tNh t else if so = 1 then tNc t else if so = 2 then tNl t else tNg t
def tPut (t : TD) (so s : Nat) (y : PS) (G : FS) : TD :=
  if so = 0 then ((0, tByte t), G, (max (tNh t) (s + 1), upf (tH t) s (yH y)), t.2.2.2)
  else if so = 1 then ((0, tByte t), G, t.2.2.1, (max (tNc t) (s + 1), upf (tC t) s (yC y)), t.2.2.2.2)
  else if so = 2 then ((0, tByte t), G, t.2.2.1, t.2.2.2.1, (max (tNl t) (s + 1), upf (tL t) s (yL y)), t.2.2.2.2.2)
  else ((0, tByte t), G, t.2.2.1, t.2.2.2.1, t.2.2.2.2.1, (max (tNg t) (s + 1), upf (tG t) s (yG y)))
def dsC (so s : Nat) : Nat := if so = 0 then 8 + 16 * s else if so = 1 then 14 + 16 * s else if so = 2 then 18 + 16 * s else 21 + 16 * s
def dln (so : Nat) : Nat := if so = 0 then 6 else if so = 1 then 4 else 3
def plc (so s : Nat) : Nat := if so = 0 then 610 + 99 * s else if so = 1 then 808 + 121 * s else if so = 2 then 1050 + 79 * s else 1208 + 17 * s
def psz (so : Nat) : Nat := if so = 0 then 99 else if so = 1 then 121 else if so = 2 then 79 else 17
def DtC (so : Nat) (J : Nat → Nat → Int32) (a : Nat) (y : PS) : Prop := (so = 0 → HlD J a (yH y)) ∧ (so = 1 → CnD J a (yC y)) ∧ (so = 2 → LnD J a (yL y)) ∧ (so = 3 → LgD J a (yG y))
def DtR (so : Nat) (J : Nat → Nat → Int32) (o : Nat) (y : PS) : Prop := (so = 0 → MhA J o (yH y)) ∧ (so = 1 → McA J o (yC y)) ∧ (so = 2 → MlA J o (yL y)) ∧ (so = 3 → MgA J o (yG y))
def DtW (so : Nat) (y : PS) : Prop := (so = 0 → HW (yH y) ∧ HX (yH y)) ∧ (so = 1 → CW (yC y)) ∧ (so = 2 → LW (yL y)) ∧ (so = 3 → GW (yG y))
section PUT
variable {g : zG} {I J : Nat → Nat → Int32} {P R : Nat → Nat → Option Nat} {t : TD} {im : Nat → Option TD} {y : PS} {G : FS}
/-- a text that isn't read, or has a fault -/
theorem LI.base (L : LI g I P t im) (hP : KpP P R) (h114 : ∀ a, 114 ≤ a → J a = I a) (h97 : J 97 = I 97) (h96 : ∀ k, k < 4 ∨ 610 ≤ k → J 96 k = I 96 k) (hc : ∀ a, 2 ≤ a → a ≤ 40 → J a = I a) (j1 : J 1 1 = 0) (j2 : J 1 2 = G.1) (j3 : J 1 3 = G.2) (m4 : J 96 4 = 0) (m5 : J 96 5 = G.1) (m6 : J 96 6 = G.2) : LI g J R (tBase t G) im := by
  have L0 := L
  obtain ⟨S, Q, W, D, M, hC, hM, hB⟩ := L
  have W' : TW (tBase t G) := ⟨⟨(show 0 ≤ 600 by decide), fun k hk => absurd hk (Nat.not_lt_zero k)⟩, W.2⟩
  refine L0.re hP h114 h97 (fun k hk => h96 k (by omega)) (by rw [hc 8 (by decide) (by decide), hc 24 (by decide) (by decide)]; exact hB.1) W' ⟨⟨j1, j2, j3, fun k hk => absurd hk (Nat.not_lt_zero k)⟩, by rw [hc 3 (by decide) (by decide)]; exact D.2.1, ?_⟩ ⟨⟨m4, m5, m6, fun k hk => absurd hk (Nat.not_lt_zero k)⟩, ?_, ?_⟩
  · exact TlB.keep W' (show TlB I 1 (tBase t G) from D.2.2) (fun j q1 q2 => hc _ (by omega) (by omega))
  · obtain ⟨c1, c2, c3, c4⟩ := M.2.1
    exact ⟨(h96 _ (by omega)).trans c1, (h96 _ (by omega)).trans c2, (h96 _ (by omega)).trans c3, (h96 _ (by omega)).trans c4⟩
  · exact MtB.keep W' (show MtB I 0 (tBase t G) from M.2.2) (fun k q1 q2 => h96 k (by omega))
/-- a text is kept -/
theorem LI.put {so s : Nat} (L : LI g I P t im) (hso : so < 4) (hs : s < 2) (hsc : s ≤ cnS t so) (hP : KpP P R) (h114 : ∀ a, 114 ≤ a → J a = I a) (h97 : J 97 = I 97) (h96 : ∀ k, (k < 4 ∧ k ≠ so) ∨ 1242 ≤ k ∨ (610 ≤ k ∧ ¬ (plc so s ≤ k ∧ k < plc so s + psz so)) → J 96 k = I 96 k) (hc : ∀ a, 4 ≤ a → a ≤ 40 → ¬ (dsC so s ≤ a ∧ a < dsC so s + dln so) → J a = I a) (hb : so = 0 → J (8 + 16 * s) 2 = 0 ∨ J (8 + 16 * s) 2 = 1) (j1 : J 1 1 = 0) (j2 : J 1 2 = G.1) (j3 : J 1 3 = G.2) (j3' : ∀ k, k < 4 → J 3 k = if k = so then nI (max (cnS t so) (s + 1)) else I 3 k) (m4 : J 96 4 = 0) (m5 : J 96 5 = G.1) (m6 : J 96 6 = G.2) (mc : J 96 so = nI (max (cnS t so) (s + 1))) (dC : DtC so J (dsC so s) y) (dR : DtR so J (plc so s) y) (dW : DtW so y) : LI g J R (tPut t so s y G) im := by
  have L0 := L
  obtain ⟨S, Q, ⟨W1, ⟨w2, W2⟩, ⟨w3, W3⟩, ⟨w4, W4⟩, w5, W5⟩, ⟨D1, ⟨e0, e1, e2, e3⟩, D3, D4, D5, D6⟩, ⟨M1, ⟨n0', n1', n2', n3'⟩, M3, M4, M5, M6⟩, hC, hM, hB⟩ := L
  have tape : ∀ t' : TD, tLen t' = 0 → (tLen t' ≤ 600 ∧ ∀ k, k < tLen t' → ∃ b, b < 256 ∧ tByte t' k = nI b) := fun t' h => ⟨by omega, fun k hk => by omega⟩
  have z600 : (0 ≤ 600) := by decide
  rcases (show so = 0 ∨ so = 1 ∨ so = 2 ∨ so = 3 by omega) with rfl | rfl | rfl | rfl
  · have dd : ∀ a, 4 ≤ a → a ≤ 40 → ¬ (8 + 16 * s ≤ a ∧ a < 14 + 16 * s) → J a = I a := fun a h1 h2 h3 => hc a h1 h2 (fun e => h3 ⟨e.1, by have : a < 8 + 16 * s + 6 := e.2; omega⟩)
    have pp : ∀ k, (610 ≤ k ∧ ¬ (610 + 99 * s ≤ k ∧ k < 709 + 99 * s)) → J 96 k = I 96 k := fun k h => h96 k (Or.inr (Or.inr ⟨h.1, fun e => h.2 ⟨e.1, by have : k < 610 + 99 * s + 99 := e.2; omega⟩⟩))
    have cs : cnS t 0 = tNh t := rfl
    refine L0.re hP h114 h97 (fun k hk => h96 k (by omega)) ⟨?_, ?_⟩ (t' := ((0, tByte t), G, (max (tNh t) (s + 1), upf (tH t) s (yH y)), t.2.2.2)) ⟨⟨z600, fun k hk => absurd hk (Nat.not_lt_zero k)⟩, ⟨(show max (tNh t) (s + 1) ≤ 2 by omega), fun i hi => ?_⟩, ⟨w3, W3⟩, ⟨w4, W4⟩, w5, W5⟩ ⟨⟨j1, j2, j3, fun k hk => absurd hk (Nat.not_lt_zero k)⟩, ⟨?_, ?_, ?_, ?_⟩, fun i hi => ?_, fun i hi => ?_, fun i hi => ?_, fun i hi => ?_⟩ ⟨⟨m4, m5, m6, fun k hk => absurd hk (Nat.not_lt_zero k)⟩, ⟨mc, ?_, ?_, ?_⟩, fun i hi => ?_, fun i hi => ?_, fun i hi => ?_, fun i hi => ?_⟩
    · by_cases e : s = 0
      · subst e; exact hb rfl
      · rw [dd 8 (by decide) (by decide) (by omega)]; exact hB.1.1
    · by_cases e : s = 1
      · subst e; exact hb rfl
      · rw [dd 24 (by decide) (by decide) (by omega)]; exact hB.1.2
    · have hi : i < max (tNh t) (s + 1) := hi
      show HW (upf (tH t) s (yH y) i) ∧ HX (upf (tH t) s (yH y) i)
      by_cases e : i = s
      · rw [e, upf_s]; exact dW.1 rfl
      · rw [upf_n _ _ e]; exact W2 i (by omega)
    · exact (j3' 0 (by decide)).trans (by rw [if_pos rfl]; rfl)
    · exact (j3' 1 (by decide)).trans (by rw [if_neg (by decide)]; exact e1)
    · exact (j3' 2 (by decide)).trans (by rw [if_neg (by decide)]; exact e2)
    · exact (j3' 3 (by decide)).trans (by rw [if_neg (by decide)]; exact e3)
    · have hi : i < max (tNh t) (s + 1) := hi
      show HlD J (1 + 7 + 16 * i) (upf (tH t) s (yH y) i)
      by_cases e : i = s
      · rw [e, upf_s]; exact dC.1 rfl
      · rw [upf_n _ _ e]; exact (D3 i (by omega)).keep (fun j hj => dd _ (by omega) (by omega) (by omega))
    · have hi : i < tNc t := hi
      exact (D4 i hi).keep (fun j hj => dd _ (by omega) (by omega) (by omega))
    · have hi : i < tNl t := hi
      exact (D5 i hi).keep (fun j hj => dd _ (by omega) (by omega) (by omega))
    · have hi : i < tNg t := hi
      exact (D6 i hi).keep (fun j hj => dd _ (by omega) (by omega) (by omega))
    · exact (h96 1 (by omega)).trans n1'
    · exact (h96 2 (by omega)).trans n2'
    · exact (h96 3 (by omega)).trans n3'
    · have hi : i < max (tNh t) (s + 1) := hi
      show MhA J (0 + 610 + 99 * i) (upf (tH t) s (yH y) i)
      by_cases e : i = s
      · rw [e, upf_s, Nat.zero_add]; exact dR.1 rfl
      · rw [upf_n _ _ e]; exact (M3 i (by omega)).keep (W2 i (by omega)).1 (fun k k1 k2 => pp k (by omega))
    · have hi : i < tNc t := hi
      exact (M4 i hi).keep (W3 i hi) (fun k k1 k2 => pp k (by omega))
    · have hi : i < tNl t := hi
      exact (M5 i hi).keep (W4 i hi) (fun k k1 k2 => pp k (by omega))
    · have hi : i < tNg t := hi
      exact (M6 i hi).keep (W5 i hi) (fun k k1 k2 => pp k (by omega))
  · have dd : ∀ a, 4 ≤ a → a ≤ 40 → ¬ (14 + 16 * s ≤ a ∧ a < 18 + 16 * s) → J a = I a := fun a h1 h2 h3 => hc a h1 h2 (fun e => h3 ⟨e.1, by have : a < 14 + 16 * s + 4 := e.2; omega⟩)
    have pp : ∀ k, (610 ≤ k ∧ ¬ (808 + 121 * s ≤ k ∧ k < 929 + 121 * s)) → J 96 k = I 96 k := fun k h => h96 k (Or.inr (Or.inr ⟨h.1, fun e => h.2 ⟨e.1, by have : k < 808 + 121 * s + 121 := e.2; omega⟩⟩))
    have cs : cnS t 1 = tNc t := rfl
    refine L0.re hP h114 h97 (fun k hk => h96 k (by omega)) ⟨?_, ?_⟩ (t' := ((0, tByte t), G, t.2.2.1, (max (tNc t) (s + 1), upf (tC t) s (yC y)), t.2.2.2.2)) ⟨⟨z600, fun k hk => absurd hk (Nat.not_lt_zero k)⟩, ⟨w2, W2⟩, ⟨(show max (tNc t) (s + 1) ≤ 2 by omega), fun i hi => ?_⟩, ⟨w4, W4⟩, w5, W5⟩ ⟨⟨j1, j2, j3, fun k hk => absurd hk (Nat.not_lt_zero k)⟩, ⟨?_, ?_, ?_, ?_⟩, fun i hi => ?_, fun i hi => ?_, fun i hi => ?_, fun i hi => ?_⟩ ⟨⟨m4, m5, m6, fun k hk => absurd hk (Nat.not_lt_zero k)⟩, ⟨?_, mc, ?_, ?_⟩, fun i hi => ?_, fun i hi => ?_, fun i hi => ?_, fun i hi => ?_⟩
    · rw [dd 8 (by decide) (by decide) (by omega)]; exact hB.1.1
    · rw [dd 24 (by decide) (by decide) (by omega)]; exact hB.1.2
    · have hi : i < max (tNc t) (s + 1) := hi
      show CW (upf (tC t) s (yC y) i)
      by_cases e : i = s
      · rw [e, upf_s]; exact dW.2.1 rfl
      · rw [upf_n _ _ e]; exact W3 i (by omega)
    · exact (j3' 0 (by decide)).trans (by rw [if_neg (by decide)]; exact e0)
    · exact (j3' 1 (by decide)).trans (by rw [if_pos rfl]; rfl)
    · exact (j3' 2 (by decide)).trans (by rw [if_neg (by decide)]; exact e2)
    · exact (j3' 3 (by decide)).trans (by rw [if_neg (by decide)]; exact e3)
    · have hi : i < tNh t := hi
      exact (D3 i hi).keep (fun j hj => dd _ (by omega) (by omega) (by omega))
    · have hi : i < max (tNc t) (s + 1) := hi
      show CnD J (1 + 13 + 16 * i) (upf (tC t) s (yC y) i)
      by_cases e : i = s
      · rw [e, upf_s]; exact dC.2.1 rfl
      · rw [upf_n _ _ e]; exact (D4 i (by omega)).keep (fun j hj => dd _ (by omega) (by omega) (by omega))
    · have hi : i < tNl t := hi
      exact (D5 i hi).keep (fun j hj => dd _ (by omega) (by omega) (by omega))
    · have hi : i < tNg t := hi
      exact (D6 i hi).keep (fun j hj => dd _ (by omega) (by omega) (by omega))
    · exact (h96 0 (by omega)).trans n0'
    · exact (h96 2 (by omega)).trans n2'
    · exact (h96 3 (by omega)).trans n3'
    · have hi : i < tNh t := hi
      exact (M3 i hi).keep (W2 i hi).1 (fun k k1 k2 => pp k (by omega))
    · have hi : i < max (tNc t) (s + 1) := hi
      show McA J (0 + 808 + 121 * i) (upf (tC t) s (yC y) i)
      by_cases e : i = s
      · rw [e, upf_s, Nat.zero_add]; exact dR.2.1 rfl
      · rw [upf_n _ _ e]; exact (M4 i (by omega)).keep (W3 i (by omega)) (fun k k1 k2 => pp k (by omega))
    · have hi : i < tNl t := hi
      exact (M5 i hi).keep (W4 i hi) (fun k k1 k2 => pp k (by omega))
    · have hi : i < tNg t := hi
      exact (M6 i hi).keep (W5 i hi) (fun k k1 k2 => pp k (by omega))
  · have dd : ∀ a, 4 ≤ a → a ≤ 40 → ¬ (18 + 16 * s ≤ a ∧ a < 21 + 16 * s) → J a = I a := fun a h1 h2 h3 => hc a h1 h2 (fun e => h3 ⟨e.1, by have : a < 18 + 16 * s + 3 := e.2; omega⟩)
    have pp : ∀ k, (610 ≤ k ∧ ¬ (1050 + 79 * s ≤ k ∧ k < 1129 + 79 * s)) → J 96 k = I 96 k := fun k h => h96 k (Or.inr (Or.inr ⟨h.1, fun e => h.2 ⟨e.1, by have : k < 1050 + 79 * s + 79 := e.2; omega⟩⟩))
    have cs : cnS t 2 = tNl t := rfl
    refine L0.re hP h114 h97 (fun k hk => h96 k (by omega)) ⟨?_, ?_⟩ (t' := ((0, tByte t), G, t.2.2.1, t.2.2.2.1, (max (tNl t) (s + 1), upf (tL t) s (yL y)), t.2.2.2.2.2)) ⟨⟨z600, fun k hk => absurd hk (Nat.not_lt_zero k)⟩, ⟨w2, W2⟩, ⟨w3, W3⟩, ⟨(show max (tNl t) (s + 1) ≤ 2 by omega), fun i hi => ?_⟩, w5, W5⟩ ⟨⟨j1, j2, j3, fun k hk => absurd hk (Nat.not_lt_zero k)⟩, ⟨?_, ?_, ?_, ?_⟩, fun i hi => ?_, fun i hi => ?_, fun i hi => ?_, fun i hi => ?_⟩ ⟨⟨m4, m5, m6, fun k hk => absurd hk (Nat.not_lt_zero k)⟩, ⟨?_, ?_, mc, ?_⟩, fun i hi => ?_, fun i hi => ?_, fun i hi => ?_, fun i hi => ?_⟩
    · rw [dd 8 (by decide) (by decide) (by omega)]; exact hB.1.1
    · rw [dd 24 (by decide) (by decide) (by omega)]; exact hB.1.2
    · have hi : i < max (tNl t) (s + 1) := hi
      show LW (upf (tL t) s (yL y) i)
      by_cases e : i = s
      · rw [e, upf_s]; exact dW.2.2.1 rfl
      · rw [upf_n _ _ e]; exact W4 i (by omega)
    · exact (j3' 0 (by decide)).trans (by rw [if_neg (by decide)]; exact e0)
    · exact (j3' 1 (by decide)).trans (by rw [if_neg (by decide)]; exact e1)
    · exact (j3' 2 (by decide)).trans (by rw [if_pos rfl]; rfl)
    · exact (j3' 3 (by decide)).trans (by rw [if_neg (by decide)]; exact e3)
    · have hi : i < tNh t := hi
      exact (D3 i hi).keep (fun j hj => dd _ (by omega) (by omega) (by omega))
    · have hi : i < tNc t := hi
      exact (D4 i hi).keep (fun j hj => dd _ (by omega) (by omega) (by omega))
    · have hi : i < max (tNl t) (s + 1) := hi
      show LnD J (1 + 17 + 16 * i) (upf (tL t) s (yL y) i)
      by_cases e : i = s
      · rw [e, upf_s]; exact dC.2.2.1 rfl
      · rw [upf_n _ _ e]; exact (D5 i (by omega)).keep (fun j hj => dd _ (by omega) (by omega) (by omega))
    · have hi : i < tNg t := hi
      exact (D6 i hi).keep (fun j hj => dd _ (by omega) (by omega) (by omega))
    · exact (h96 0 (by omega)).trans n0'
    · exact (h96 1 (by omega)).trans n1'
    · exact (h96 3 (by omega)).trans n3'
    · have hi : i < tNh t := hi
      exact (M3 i hi).keep (W2 i hi).1 (fun k k1 k2 => pp k (by omega))
    · have hi : i < tNc t := hi
      exact (M4 i hi).keep (W3 i hi) (fun k k1 k2 => pp k (by omega))
    · have hi : i < max (tNl t) (s + 1) := hi
      show MlA J (0 + 1050 + 79 * i) (upf (tL t) s (yL y) i)
      by_cases e : i = s
      · rw [e, upf_s, Nat.zero_add]; exact dR.2.2.1 rfl
      · rw [upf_n _ _ e]; exact (M5 i (by omega)).keep (W4 i (by omega)) (fun k k1 k2 => pp k (by omega))
    · have hi : i < tNg t := hi
      exact (M6 i hi).keep (W5 i hi) (fun k k1 k2 => pp k (by omega))
  · have dd : ∀ a, 4 ≤ a → a ≤ 40 → ¬ (21 + 16 * s ≤ a ∧ a < 24 + 16 * s) → J a = I a := fun a h1 h2 h3 => hc a h1 h2 (fun e => h3 ⟨e.1, by have : a < 21 + 16 * s + 3 := e.2; omega⟩)
    have pp : ∀ k, (610 ≤ k ∧ ¬ (1208 + 17 * s ≤ k ∧ k < 1225 + 17 * s)) → J 96 k = I 96 k := fun k h => h96 k (Or.inr (Or.inr ⟨h.1, fun e => h.2 ⟨e.1, by have : k < 1208 + 17 * s + 17 := e.2; omega⟩⟩))
    have cs : cnS t 3 = tNg t := rfl
    refine L0.re hP h114 h97 (fun k hk => h96 k (by omega)) ⟨?_, ?_⟩ (t' := ((0, tByte t), G, t.2.2.1, t.2.2.2.1, t.2.2.2.2.1, (max (tNg t) (s + 1), upf (tG t) s (yG y)))) ⟨⟨z600, fun k hk => absurd hk (Nat.not_lt_zero k)⟩, ⟨w2, W2⟩, ⟨w3, W3⟩, ⟨w4, W4⟩, (show max (tNg t) (s + 1) ≤ 2 by omega), fun i hi => ?_⟩ ⟨⟨j1, j2, j3, fun k hk => absurd hk (Nat.not_lt_zero k)⟩, ⟨?_, ?_, ?_, ?_⟩, fun i hi => ?_, fun i hi => ?_, fun i hi => ?_, fun i hi => ?_⟩ ⟨⟨m4, m5, m6, fun k hk => absurd hk (Nat.not_lt_zero k)⟩, ⟨?_, ?_, ?_, mc⟩, fun i hi => ?_, fun i hi => ?_, fun i hi => ?_, fun i hi => ?_⟩
    · rw [dd 8 (by decide) (by decide) (by omega)]; exact hB.1.1
    · rw [dd 24 (by decide) (by decide) (by omega)]; exact hB.1.2
    · have hi : i < max (tNg t) (s + 1) := hi
      show GW (upf (tG t) s (yG y) i)
      by_cases e : i = s
      · rw [e, upf_s]; exact dW.2.2.2 rfl
      · rw [upf_n _ _ e]; exact W5 i (by omega)
    · exact (j3' 0 (by decide)).trans (by rw [if_neg (by decide)]; exact e0)
    · exact (j3' 1 (by decide)).trans (by rw [if_neg (by decide)]; exact e1)
    · exact (j3' 2 (by decide)).trans (by rw [if_neg (by decide)]; exact e2)
    · exact (j3' 3 (by decide)).trans (by rw [if_pos rfl]; rfl)
    · have hi : i < tNh t := hi
      exact (D3 i hi).keep (fun j hj => dd _ (by omega) (by omega) (by omega))
    · have hi : i < tNc t := hi
      exact (D4 i hi).keep (fun j hj => dd _ (by omega) (by omega) (by omega))
    · have hi : i < tNl t := hi
      exact (D5 i hi).keep (fun j hj => dd _ (by omega) (by omega) (by omega))
    · have hi : i < max (tNg t) (s + 1) := hi
      show LgD J (1 + 20 + 16 * i) (upf (tG t) s (yG y) i)
      by_cases e : i = s
      · rw [e, upf_s]; exact dC.2.2.2 rfl
      · rw [upf_n _ _ e]; exact (D6 i (by omega)).keep (fun j hj => dd _ (by omega) (by omega) (by omega))
    · exact (h96 0 (by omega)).trans n0'
    · exact (h96 1 (by omega)).trans n1'
    · exact (h96 2 (by omega)).trans n2'
    · have hi : i < tNh t := hi
      exact (M3 i hi).keep (W2 i hi).1 (fun k k1 k2 => pp k (by omega))
    · have hi : i < tNc t := hi
      exact (M4 i hi).keep (W3 i hi) (fun k k1 k2 => pp k (by omega))
    · have hi : i < tNl t := hi
      exact (M5 i hi).keep (W4 i hi) (fun k k1 k2 => pp k (by omega))
    · have hi : i < max (tNg t) (s + 1) := hi
      show MgA J (0 + 1208 + 17 * i) (upf (tG t) s (yG y) i)
      by_cases e : i = s
      · rw [e, upf_s, Nat.zero_add]; exact dR.2.2.2 rfl
      · rw [upf_n _ _ e]; exact (M6 i (by omega)).keep (W5 i (by omega)) (fun k k1 k2 => pp k (by omega))
end PUT
