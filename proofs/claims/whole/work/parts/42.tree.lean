/-! ===== tree ===== -/
/-- the couple least apart: one couple more -/
def clS (d : HD) (s : Option (Nat × Nat)) (a b : Nat) : Option (Nat × Nat) := match s with
  | none => some (a, b)
  | some q => if hAp d q.1 q.2 ≤ hAp d a b then some q else some (a, b)
def clR (d : HD) (a : Nat) (s : Option (Nat × Nat)) : Nat → Option (Nat × Nat)
  | 0 => s
  | n + 1 => clS d (clR d a s n) a (a + 1 + n)
def clA (d : HD) : Nat → Option (Nat × Nat)
  | 0 => none
  | a + 1 => clR d a (clA d a) (hN d - (a + 1))
def clI : Option (Nat × Nat) → Int32
  | none => -1
  | some q => nI (10 * q.1 + q.2)
def clL (d : HD) : Option (Nat × Nat) → Int32
  | none => -1
  | some q => nI (hAp d q.1 q.2)
def clO (d : HD) (s : Option (Nat × Nat)) : Prop := ∀ q, s = some q → q.1 < hN d ∧ q.2 < hN d
theorem clS_o {d : HD} {s : Option (Nat × Nat)} {a b : Nat} (h : clO d s) (ha : a < hN d) (hb : b < hN d) : clO d (clS d s a b) := by
  intro q hq
  unfold clS at hq
  cases s with
  | none => cases hq; exact ⟨ha, hb⟩
  | some p =>
    simp only at hq
    by_cases hc : hAp d p.1 p.2 ≤ hAp d a b
    · rw [if_pos hc] at hq; obtain rfl : p = q := Option.some.inj hq; exact h p rfl
    · rw [if_neg hc] at hq; cases hq; exact ⟨ha, hb⟩
theorem clR_o {d : HD} {s : Option (Nat × Nat)} {a : Nat} (h : clO d s) : ∀ n, a + 1 + n ≤ hN d → clO d (clR d a s n) := by
  intro n
  induction n with
  | zero => intro _; exact h
  | succ n ih => intro hn; exact clS_o (ih (by omega)) (by omega) (by omega)
theorem clA_o {d : HD} : ∀ a, a ≤ hN d → clO d (clA d a) := by
  intro a
  induction a with
  | zero => intro _ q hq; cases hq
  | succ a ih => intro ha; exact clR_o (ih (by omega)) _ (by omega)
section TREE
variable {g : zG} {I : Nat → Nat → Int32} {P : Nat → Nat → Option Nat} {t : TD} {im : Nat → Option TD} {a : Nat} {d : HD}
theorem c_closest {y : Int32} (S : Sg g) (Q : Sp P) (T : HlS g P a) (W : HW d) (D : HlD I a d) (ha : a + 5 < 82) : ∃ J, Cl mX1_closest [.ref 73, .ref a, .int y] (g, I, P) (some (.int (if y = 0 then clL d (clA d (hN d)) else clI (clA d (hN d))))) (g, J, P) ∧ K82 I J := by
  have h10 := W.2.1
  have key : ∀ m p (K : Nat → Nat → Int32), p + m = hN d → K82 I K → ∃ J, Zt none mX1_closest 0 0 8 [(0, .ref 73), (1, .ref a), (2, .int y), (3, .int (clI (clA d p))), (4, .int (clL d (clA d p))), (5, .int (nI p))] [] (g, K, P) (some (.int (if y = 0 then clL d (clA d (hN d)) else clI (clA d (hN d))))) (g, J, P) ∧ K82 I J := by
    intro m
    induction m with
    | zero =>
      intro p K hp hK
      obtain rfl : p = hN d := hp
      have D2 : HlD K a d := D.keep (fun j hj => hK _ (by omega))
      refine ⟨K, wX1_closest_8 ⟨T.1, fun _ => ⟨fun h => ⟨by rw [if_pos h], rfl⟩, fun h => ⟨by rw [if_neg h], rfl⟩⟩, fun q => absurd (by rw [D2.2.1]; exact Int32.le_refl _) q⟩, hK⟩
    | succ m ih =>
      intro p K hp hK
      have inner : ∀ m n (K : Nat → Nat → Int32), n + m = hN d - (p + 1) → K82 I K → ∃ J, Zt none mX1_closest 0 0 23 [(0, .ref 73), (1, .ref a), (2, .int y), (3, .int (clI (clR d p (clA d p) n))), (4, .int (clL d (clR d p (clA d p) n))), (5, .int (nI p)), (6, .int (nI (p + 1 + n)))] [] (g, K, P) (some (.int (if y = 0 then clL d (clA d (hN d)) else clI (clA d (hN d))))) (g, J, P) ∧ K82 I J := by
        intro m
        induction m with
        | zero =>
          intro n K hn hK
          have D2 : HlD K a d := D.keep (fun j hj => hK _ (by omega))
          obtain rfl : n = hN d - (p + 1) := hn
          obtain ⟨J, z, z2⟩ := ih (p + 1) K (by omega) hK
          refine ⟨J, wX1_closest_23 ⟨T.1, fun _ => by rw [nI_1]; exact z, fun q => absurd (by rw [D2.2.1, show p + 1 + (hN d - (p + 1)) = hN d by omega]; exact Int32.le_refl _) q⟩, z2⟩
        | succ m ihn =>
          intro n K hn hK
          have D2 : HlD K a d := D.keep (fun j hj => hK _ (by omega))
          obtain ⟨K1, z, z2⟩ := c_apart (v := p) (w := p + 1 + n) S Q T W D2 ha (by omega) (by omega)
          have hK1 : K82 I K1 := fun c hc => (z2 c hc).trans (hK c hc)
          have b1 := hAp_le (v := p) (w := p + 1 + n) W (by omega) (by omega)
          obtain ⟨J, x, x2⟩ := ihn (n + 1) K1 (by omega) hK1
          have e : 10 * nI p + nI (p + 1 + n) = nI (10 * p + (p + 1 + n)) := by rw [show (10 : Int32) = nI 10 from rfl, pk_mul, nI_add]
          have ho := clR_o (d := d) (a := p) (clA_o p (by omega)) n (by omega)
          refine ⟨J, wX1_closest_23 ⟨T.1, fun q => ?_, fun _ => ⟨S.k 73 1 (by decide), _, _, z, ?_⟩⟩, x2⟩
          · rw [D2.2.1] at q
            exact absurd q (nI_ge (by omega) (by omega))
          · rw [e, nI_1]
            have er : clR d p (clA d p) (n + 1) = clS d (clR d p (clA d p) n) p (p + 1 + n) := rfl
            rw [er] at x
            cases hs : clR d p (clA d p) n with
            | none =>
              rw [hs] at x
              exact ⟨fun _ => x, fun q => absurd rfl q⟩
            | some q =>
              obtain ⟨q1, q2⟩ := ho q hs
              have b2 := hAp_le W q1 q2
              rw [hs] at x
              unfold clS at x
              refine ⟨fun h => absurd h (nI_m1' (by omega)), fun _ => pk_le (hAp d q.1 q.2) (hAp d p (p + 1 + n)) (fun h => ?_) (fun h => ?_)⟩
              · simp only [if_pos h] at x; exact x
              · simp only [if_neg (Nat.not_le.mpr h)] at x; exact x
      obtain ⟨J, z, z2⟩ := inner (hN d - (p + 1)) 0 K (by omega) hK
      have D2 : HlD K a d := D.keep (fun j hj => hK _ (by omega))
      refine ⟨J, wX1_closest_8 ⟨T.1, fun q => ?_, fun _ => by rw [nI_1]; exact z⟩, z2⟩
      rw [D2.2.1] at q
      exact absurd q (nI_ge (by omega) (by omega))
  obtain ⟨J, z, z2⟩ := key (hN d) 0 I (by omega) (fun _ _ => rfl)
  exact ⟨J, eX1_closest (wX1_closest_0 z), z2⟩
theorem cl_dec {d : HD} {q : Nat × Nat} (W : HW d) (h : q.1 < hN d ∧ q.2 < hN d) : nI (10 * q.1 + q.2) / 10 = nI q.1 ∧ nI (10 * q.1 + q.2) - nI (10 * q.1 + q.2) / 10 * 10 = nI q.2 := by
  have h10 := W.2.1
  obtain ⟨h1, h2⟩ := h
  constructor
  · rw [show (10 : Int32) = nI 10 from rfl, pk_div (by omega) (by decide) (by decide), show (10 * q.1 + q.2) / 10 = q.1 by omega]
  · rw [show (10 : Int32) = nI 10 from rfl, pk_rem (by omega) (by decide) (by decide), show (10 * q.1 + q.2) % 10 = q.2 by omega]
theorem r_closest {h0 : Nat} (S : Sg g) (Q : Sp P) (W : HW d) (D : MhD I h0 d) : ∃ J, Cl mX12_closestOf [.ref 95] (g, I, P) (some (.int (clI (clA d (hN d))))) (g, J, P) ∧ Ke I J := by
  have h10 := W.2.1
  have key : ∀ m p (K : Nat → Nat → Int32), p + m = hN d → Ke I K → ∃ J, Zt none mX12_closestOf 0 0 4 [(0, .ref 95), (1, .int (clI (clA d p))), (2, .int (nI p))] [] (g, K, P) (some (.int (clI (clA d (hN d))))) (g, J, P) ∧ Ke I J := by
    intro m
    induction m with
    | zero =>
      intro p K hp hK
      obtain rfl : p = hN d := hp
      refine ⟨K, wX12_closestOf_4 ⟨S.k 95 12 (by decide), fun _ => ⟨rfl, rfl⟩, fun q => absurd (by rw [(hK.h D).2.2.2.1]; exact Int32.le_refl _) q⟩, hK⟩
    | succ m ih =>
      intro p K hp hK
      have inner : ∀ m n (K : Nat → Nat → Int32), n + m = hN d - (p + 1) → Ke I K → ∃ J, Zt none mX12_closestOf 0 0 16 [(0, .ref 95), (1, .int (clI (clR d p (clA d p) n))), (2, .int (nI p)), (3, .int (nI (p + 1 + n)))] [] (g, K, P) (some (.int (clI (clA d (hN d))))) (g, J, P) ∧ Ke I J := by
        intro m
        induction m with
        | zero =>
          intro n K hn hK
          obtain rfl : n = hN d - (p + 1) := hn
          obtain ⟨J, z, z2⟩ := ih (p + 1) K (by omega) hK
          refine ⟨J, wX12_closestOf_16 ⟨S.k 95 12 (by decide), fun _ => by rw [nI_1]; exact z, fun q => absurd (by rw [(hK.h D).2.2.2.1, show p + 1 + (hN d - (p + 1)) = hN d by omega]; exact Int32.le_refl _) q⟩, z2⟩
        | succ m ihn =>
          intro n K hn hK
          have e : 10 * nI p + nI (p + 1 + n) = nI (10 * p + (p + 1 + n)) := by rw [show (10 : Int32) = nI 10 from rfl, pk_mul, nI_add]
          have ho := clR_o (d := d) (a := p) (clA_o p (by omega)) n (by omega)
          have er : clR d p (clA d p) (n + 1) = clS d (clR d p (clA d p) n) p (p + 1 + n) := rfl
          have hb : ∀ r, K 95 15 ≤ nI (p + 1 + n) → r := fun r q => by
            rw [(hK.h D).2.2.2.1] at q
            exact absurd q (nI_ge (by omega) (by omega))
          cases hs : clR d p (clA d p) n with
          | none =>
            obtain ⟨J, x, x2⟩ := ihn (n + 1) K (by omega) hK
            rw [er, hs] at x
            exact ⟨J, wX12_closestOf_16 ⟨S.k 95 12 (by decide), fun q => hb _ q, fun _ => ⟨fun _ => by rw [e, nI_1]; exact x, fun q => absurd rfl q⟩⟩, x2⟩
          | some q =>
            obtain ⟨q1, q2⟩ := ho q hs
            obtain ⟨e1, e2⟩ := cl_dec W ⟨q1, q2⟩
            obtain ⟨K1, z1, f1⟩ := r_apart (v := p) (w := p + 1 + n) S Q W (hK.h D) (by omega) (by omega)
            obtain ⟨K2, z2, f2⟩ := r_apart (v := q.1) (w := q.2) S Q W ((hK.tr f1).h D) q1 q2
            have b1 := hAp_le (v := p) (w := p + 1 + n) W (by omega) (by omega)
            have b2 := hAp_le W q1 q2
            obtain ⟨J, x, x2⟩ := ihn (n + 1) K2 (by omega) ((hK.tr f1).tr f2)
            rw [er, hs] at x
            unfold clS at x
            refine ⟨J, wX12_closestOf_16 ⟨S.k 95 12 (by decide), fun q => hb _ q, fun _ => ⟨fun h => absurd h (nI_m1' (by omega)), fun _ => ⟨S.k 95 12 (by decide), _, _, z1, S.k 95 12 (by decide), _, _, by show Cl _ [_, .int (nI (10 * q.1 + q.2) / 10), .int (nI (10 * q.1 + q.2) - nI (10 * q.1 + q.2) / 10 * 10)] _ _ _; rw [e2, e1]; exact z2, ?_⟩⟩⟩, x2⟩
            rw [e, nI_1]
            refine pk_le (hAp d q.1 q.2) (hAp d p (p + 1 + n)) (fun h => ?_) (fun h => ?_)
            · simp only [if_pos h] at x; exact x
            · simp only [if_neg (Nat.not_le.mpr h)] at x; exact x
      obtain ⟨J, z, z2⟩ := inner (hN d - (p + 1)) 0 K (by omega) hK
      refine ⟨J, wX12_closestOf_4 ⟨S.k 95 12 (by decide), fun q => ?_, fun _ => by rw [nI_1]; exact z⟩, z2⟩
      rw [(hK.h D).2.2.2.1] at q
      exact absurd q (nI_ge (by omega) (by omega))
  obtain ⟨J, z, z2⟩ := key (hN d) 0 I (by omega) (Ke.rf I)
  exact ⟨J, eX12_closestOf (wX12_closestOf_0 z), z2⟩
/-! beginnings that no word ahead has -/
def kn (d : HD) (w : Nat) : Nat → Nat
  | 0 => 0
  | v + 1 => max (kn d w v) (hLcp d v w)
theorem kn_le {w : Nat} (W : HW d) (hw : w < hN d) : ∀ v, kn d w v ≤ 6 := by
  intro v
  induction v with
  | zero => exact Nat.zero_le _
  | succ v ih =>
    have h2 := (hLcp_le d v w).2
    have h3 := (W.2.2.1 w hw).2
    exact Nat.max_le.mpr ⟨ih, by omega⟩
def hTr (d : HD) (w : Nat) : Int32 := nI (hZ d w) - nI (kn d w w)
theorem c_treeOf (T : HlS g P a) (W : HW d) (D : HlD I a d) : Cl mX3_unlikeBeginnings [.ref a] (g, I, P) (some (.int (zsum (hTr d) (hN d)))) (g, I, P) := by
  have h10 := W.2.1
  have key : ∀ m w, w + m = hN d → Zt none mX3_unlikeBeginnings 0 0 4 [(0, .ref a), (1, .int (zsum (hTr d) w)), (2, .int (nI w))] [] (g, I, P) (some (.int (zsum (hTr d) (hN d)))) (g, I, P) := by
    intro m
    induction m with
    | zero =>
      intro w hw
      obtain rfl : w = hN d := hw
      exact wX3_unlikeBeginnings_4 ⟨T.1, fun _ => ⟨rfl, rfl⟩, fun q => absurd (by rw [D.2.1]; exact Int32.le_refl _) q⟩
    | succ m ih =>
      intro w hw
      have ih := ih (w + 1) (by omega)
      have inner : ∀ m v, v + m = w → Zt none mX3_unlikeBeginnings 0 0 17 [(0, .ref a), (1, .int (zsum (hTr d) w)), (2, .int (nI w)), (3, .int (nI (kn d w v))), (4, .int (nI v))] [] (g, I, P) (some (.int (zsum (hTr d) (hN d)))) (g, I, P) := by
        intro m
        induction m with
        | zero =>
          intro v hv
          obtain rfl : v = w := hv
          exact wX3_unlikeBeginnings_17 ⟨fun _ => ⟨T.1, _, c_sizeOf T W D (by omega), by rw [nI_1]; exact ih⟩, fun q => absurd (Int32.le_refl _) q⟩
        | succ m ihv =>
          intro v hv
          have ihv := ihv (v + 1) (by omega)
          have h2 := (hLcp_le d v w).2
          have h3 := (W.2.2.1 w (by omega)).2
          have h4 := kn_le W (w := w) (by omega) v
          refine wX3_unlikeBeginnings_17 ⟨fun q => absurd q (nI_ge (by omega) (by omega)), fun _ => ⟨T.1, _, c_lcp T W D (by omega) (by omega), ?_⟩⟩
          rw [zmmax_n (by omega) (by omega), nI_1]; exact ihv
      refine wX3_unlikeBeginnings_4 ⟨T.1, fun q => ?_, fun _ => inner w 0 (by omega)⟩
      rw [D.2.1] at q
      exact absurd q (nI_ge (by omega) (by omega))
  exact eX3_unlikeBeginnings (wX3_unlikeBeginnings_0 (key (hN d) 0 (by omega)))
theorem r_treeOf {h0 : Nat} (S : Sg g) (Q : Sp P) (W : HW d) (D : MhD I h0 d) : Cl mX12_treeOf [.ref 95] (g, I, P) (some (.int (zsum (hTr d) (hN d)))) (g, I, P) := by
  have h10 := W.2.1
  have key : ∀ m w, w + m = hN d → Zt none mX12_treeOf 0 0 4 [(0, .ref 95), (1, .int (zsum (hTr d) w)), (2, .int (nI w))] [] (g, I, P) (some (.int (zsum (hTr d) (hN d)))) (g, I, P) := by
    intro m
    induction m with
    | zero =>
      intro w hw
      obtain rfl : w = hN d := hw
      exact wX12_treeOf_4 ⟨S.k 95 12 (by decide), fun _ => ⟨rfl, rfl⟩, fun q => absurd (by rw [D.2.2.2.1]; exact Int32.le_refl _) q⟩
    | succ m ih =>
      intro w hw
      have ih := ih (w + 1) (by omega)
      have inner : ∀ m v, v + m = w → Zt none mX12_treeOf 0 0 17 [(0, .ref 95), (1, .int (zsum (hTr d) w)), (2, .int (nI w)), (3, .int (nI (kn d w v))), (4, .int (nI v))] [] (g, I, P) (some (.int (zsum (hTr d) (hN d)))) (g, I, P) := by
        intro m
        induction m with
        | zero =>
          intro v hv
          obtain rfl : v = w := hv
          exact wX12_treeOf_17 ⟨fun _ => ⟨S.k 95 12 (by decide), _, r_longOf S Q W D (by omega), by rw [nI_1]; exact ih⟩, fun q => absurd (Int32.le_refl _) q⟩
        | succ m ihv =>
          intro v hv
          have ihv := ihv (v + 1) (by omega)
          have h2 := (hLcp_le d v w).2
          have h3 := (W.2.2.1 w (by omega)).2
          have h4 := kn_le W (w := w) (by omega) v
          refine wX12_treeOf_17 ⟨fun q => absurd q (nI_ge (by omega) (by omega)), fun _ => ⟨S.k 95 12 (by decide), _, r_lcp S Q W D (by omega) (by omega), ?_⟩⟩
          rw [hLcp_comm d w v]
          have em : kn d w (v + 1) = max (kn d w v) (hLcp d v w) := rfl
          rw [em] at ihv
          refine pk_le (hLcp d v w) (kn d w v) (fun h => ?_) (fun h => ⟨S.k 95 12 (by decide), _, r_lcp S Q W D (by omega) (by omega), ?_⟩)
          · rw [Nat.max_eq_left h] at ihv
            rw [nI_1]; exact ihv
          · rw [Nat.max_eq_right (by omega)] at ihv
            rw [nI_1, hLcp_comm d w v]; exact ihv
      refine wX12_treeOf_4 ⟨S.k 95 12 (by decide), fun q => ?_, fun _ => inner w 0 (by omega)⟩
      rw [D.2.2.2.1] at q
      exact absurd q (nI_ge (by omega) (by omega))
  exact eX12_treeOf (wX12_treeOf_0 (key (hN d) 0 (by omega)))
/-! words with which another begins -/
def wi1 (d : HD) (w v : Nat) : Bool := decide (hZ d w < hZ d v ∧ hLcp d w v = hZ d w)
def wiN (d : HD) (s : Int32) (w : Nat) : Nat → Bool
  | 0 => false
  | v + 1 => wiN d s w v || (tb s w && (tb s v && wi1 d w v))
theorem c_isWithin {v w : Nat} (T : HlS g P a) (W : HW d) (D : HlD I a d) (hv : v < hN d) (hw : w < hN d) : Cl mX3_isWithin [.ref a, .int (nI v), .int (nI w)] (g, I, P) (some (.int (zb (wi1 d v w)))) (g, I, P) := by
  have h1 := (W.2.2.1 v hv).2
  have h2 := (W.2.2.1 w hw).2
  have h3 := (hLcp_le d v w).1
  refine eX3_isWithin (wX3_isWithin_0 ⟨T.1, _, c_sizeOf T W D hv, T.1, _, c_sizeOf T W D hw, pk_le (hZ d w) (hZ d v) (fun h => ⟨?_, rfl⟩) (fun h => ⟨T.1, _, c_lcp T W D hv hw, T.1, _, c_sizeOf T W D hv, pq_eq (hLcp d v w) (hZ d v) (fun e => ⟨?_, rfl⟩) (fun e => ⟨?_, rfl⟩)⟩)⟩)
  · unfold wi1; rw [decide_eq_false (by omega)]; rfl
  · unfold wi1; rw [decide_eq_false (fun q => e q.2)]; rfl
  · unfold wi1; rw [decide_eq_true ⟨h, e⟩]; rfl
theorem wi1_eq {v w : Nat} (X : HX d) (hv : v < hN d) (hw : w < hN d) : wi1 d v w = decide (v ≠ w ∧ hLcp d v w = hZ d v) := by
  unfold wi1
  apply decide_eq_decide.mpr
  have h3 := (hLcp_le d v w).2
  constructor
  · rintro ⟨h1, h2⟩
    exact ⟨fun e => by subst e; omega, h2⟩
  · rintro ⟨h1, h2⟩
    refine ⟨?_, h2⟩
    have := X.1 v w hv hw h1
    have : ¬ hZ d v = hZ d w := fun e => this ⟨e, h2⟩
    omega
theorem r_isBeginning {v w h0 : Nat} (S : Sg g) (Q : Sp P) (W : HW d) (X : HX d) (D : MhD I h0 d) (hv : v < hN d) (hw : w < hN d) : Cl mX12_isBeginning [.ref 95, .int (nI v), .int (nI w)] (g, I, P) (some (.int (zb (wi1 d v w)))) (g, I, P) := by
  have h10 := W.2.1
  have h1 := (W.2.2.1 v hv).2
  have h3 := (hLcp_le d v w).1
  rw [wi1_eq X hv hw]
  refine eX12_isBeginning (wX12_isBeginning_0 (pk_eq v w (fun e => ⟨?_, rfl⟩) (fun e => ⟨S.k 95 12 (by decide), _, r_lcp S Q W D hv hw, S.k 95 12 (by decide), _, r_longOf S Q W D hv, pq_eq (hLcp d v w) (hZ d v) (fun e2 => ⟨?_, rfl⟩) (fun e2 => ⟨?_, rfl⟩)⟩)))
  · rw [decide_eq_false (fun q => q.1 e)]; rfl
  · rw [decide_eq_false (fun q => e2 q.2)]; rfl
  · rw [decide_eq_true ⟨e, e2⟩]; rfl
/-- a set with one bit more, or not -/
def bsc (x : Int32) (w : Nat) (c : Bool) : Int32 := x ||| (if c = true then (1 : Int32) <<< (nI w &&& 31) else 0)
theorem bsc_f (x : Int32) (w : Nat) : bsc x w false = x := or_z x
theorem bsc_t (x : Int32) (w : Nat) (c : Bool) : bsc x w c ||| (1 : Int32) <<< (nI w &&& 31) = bsc x w true := by
  unfold bsc
  rw [if_pos rfl]
  cases c with
  | false => rw [if_neg (by decide), or_z]
  | true => rw [if_pos rfl, Int32.or_assoc, Int32.or_self]
theorem bsc_s (p : Nat → Bool) (w : Nat) : bsc (bs p w) w (p w) = bs p (w + 1) := rfl
theorem c_within {s : Int32} (T : HlS g P a) (W : HW d) (D : HlD I a d) : Cl mX3_wordsWithin [.ref a, .int s] (g, I, P) (some (.int (bs (fun w => wiN d s w (hN d)) (hN d)))) (g, I, P) := by
  have h10 := W.2.1
  have key : ∀ m w, w + m = hN d → Zt none mX3_wordsWithin 0 0 4 [(0, .ref a), (1, .int s), (2, .int (bs (fun w => wiN d s w (hN d)) w)), (3, .int (nI w))] [] (g, I, P) (some (.int (bs (fun w => wiN d s w (hN d)) (hN d)))) (g, I, P) := by
    intro m
    induction m with
    | zero =>
      intro w hw
      obtain rfl : w = hN d := hw
      exact wX3_wordsWithin_4 ⟨T.1, fun _ => ⟨rfl, rfl⟩, fun q => absurd (by rw [D.2.1]; exact Int32.le_refl _) q⟩
    | succ m ih =>
      intro w hw
      have ih := ih (w + 1) (by omega)
      have inner : ∀ m v, v + m = hN d → Zt none mX3_wordsWithin 0 0 15 [(0, .ref a), (1, .int s), (2, .int (bsc (bs (fun w => wiN d s w (hN d)) w) w (wiN d s w v))), (3, .int (nI w)), (4, .int (nI v))] [] (g, I, P) (some (.int (bs (fun w => wiN d s w (hN d)) (hN d)))) (g, I, P) := by
        intro m
        induction m with
        | zero =>
          intro v hv
          obtain rfl : v = hN d := hv
          exact wX3_wordsWithin_15 ⟨T.1, fun _ => by rw [nI_1]; exact ih, fun q => absurd (by rw [D.2.1]; exact Int32.le_refl _) q⟩
        | succ m ihv =>
          intro v hv
          have ihv := ihv (v + 1) (by omega)
          have eq : wiN d s w (v + 1) = (wiN d s w v || (tb s w && (tb s v && wi1 d w v))) := rfl
          rw [eq] at ihv
          refine wX3_wordsWithin_15 ⟨T.1, fun q => ?_, fun _ => ⟨_, c_has (by omega), zp (fun h => ?_) (fun h => ⟨_, c_has (by omega), zp (fun h2 => ?_) (fun h2 => ⟨T.1, _, c_isWithin T W D (by omega) (by omega), zp (fun h3 => ?_) (fun h3 => ⟨_, c_bit (by omega), ?_⟩)⟩)⟩)⟩⟩
          · rw [D.2.1] at q
            exact absurd q (nI_ge (by omega) (by omega))
          · rw [h, Bool.false_and, Bool.or_false] at ihv
            rw [nI_1]; exact ihv
          · rw [h2, Bool.false_and, Bool.and_false, Bool.or_false] at ihv
            rw [nI_1]; exact ihv
          · rw [h3, Bool.and_false, Bool.and_false, Bool.or_false] at ihv
            rw [nI_1]; exact ihv
          · rw [h, h2, h3, Bool.and_self, Bool.and_self, Bool.or_true] at ihv
            rw [nI_1, bsc_t]; exact ihv
      refine wX3_wordsWithin_4 ⟨T.1, fun q => ?_, fun _ => ?_⟩
      · rw [D.2.1] at q
        exact absurd q (nI_ge (by omega) (by omega))
      · have := inner (hN d) 0 (by omega)
        rw [show wiN d s w 0 = false from rfl, bsc_f] at this
        exact this
  exact eX3_wordsWithin (wX3_wordsWithin_0 (key (hN d) 0 (by omega)))
theorem r_within {s : Int32} {h0 : Nat} (S : Sg g) (Q : Sp P) (W : HW d) (X : HX d) (D : MhD I h0 d) : Cl mX12_withinOf [.ref 95, .int s] (g, I, P) (some (.int (bs (fun w => wiN d s w (hN d)) (hN d)))) (g, I, P) := by
  have h10 := W.2.1
  have key : ∀ m w, w + m = hN d → Zt none mX12_withinOf 0 0 4 [(0, .ref 95), (1, .int s), (2, .int (bs (fun w => wiN d s w (hN d)) w)), (3, .int (nI w))] [] (g, I, P) (some (.int (bs (fun w => wiN d s w (hN d)) (hN d)))) (g, I, P) := by
    intro m
    induction m with
    | zero =>
      intro w hw
      obtain rfl : w = hN d := hw
      exact wX12_withinOf_4 ⟨S.k 95 12 (by decide), fun _ => ⟨rfl, rfl⟩, fun q => absurd (by rw [D.2.2.2.1]; exact Int32.le_refl _) q⟩
    | succ m ih =>
      intro w hw
      have ih := ih (w + 1) (by omega)
      have inner : ∀ m v, v + m = hN d → Zt none mX12_withinOf 0 0 15 [(0, .ref 95), (1, .int s), (2, .int (bsc (bs (fun w => wiN d s w (hN d)) w) w (wiN d s w v))), (3, .int (nI w)), (4, .int (nI v))] [] (g, I, P) (some (.int (bs (fun w => wiN d s w (hN d)) (hN d)))) (g, I, P) := by
        intro m
        induction m with
        | zero =>
          intro v hv
          obtain rfl : v = hN d := hv
          exact wX12_withinOf_15 ⟨S.k 95 12 (by decide), fun _ => by rw [nI_1]; exact ih, fun q => absurd (by rw [D.2.2.2.1]; exact Int32.le_refl _) q⟩
        | succ m ihv =>
          intro v hv
          have ihv := ihv (v + 1) (by omega)
          have eq : wiN d s w (v + 1) = (wiN d s w v || (tb s w && (tb s v && wi1 d w v))) := rfl
          rw [eq] at ihv
          refine wX12_withinOf_15 ⟨S.k 95 12 (by decide), fun q => ?_, fun _ => ⟨_, r_holds, zp (fun h => ?_) (fun h => ⟨_, r_holds, zp (fun h2 => ?_) (fun h2 => ⟨S.k 95 12 (by decide), _, r_isBeginning S Q W X D (by omega) (by omega), zp (fun h3 => ?_) (fun h3 y hy => ?_)⟩)⟩)⟩⟩
          · rw [D.2.2.2.1] at q
            exact absurd q (nI_ge (by omega) (by omega))
          · rw [h, Bool.false_and, Bool.or_false] at ihv
            rw [nI_1, or_z]; exact ihv
          · rw [h2, Bool.false_and, Bool.and_false, Bool.or_false] at ihv
            rw [nI_1, or_z]; exact ihv
          · rw [h3, Bool.and_false, Bool.and_false, Bool.or_false] at ihv
            rw [nI_1, or_z]; exact ihv
          · rw [h, h2, h3, Bool.and_self, Bool.and_self, Bool.or_true] at ihv
            rw [nI_1, hy, bsc_t]; exact ihv
      refine wX12_withinOf_4 ⟨S.k 95 12 (by decide), fun q => ?_, fun _ => ?_⟩
      · rw [D.2.2.2.1] at q
        exact absurd q (nI_ge (by omega) (by omega))
      · have := inner (hN d) 0 (by omega)
        rw [show wiN d s w 0 = false from rfl, bsc_f] at this
        exact this
  exact eX12_withinOf (wX12_withinOf_0 (key (hN d) 0 (by omega)))
/-- questions of which one answer begins another -/
def uns (d : HD) (q : Nat) : Bool := decide (¬ bs (fun w => wiN d (hA d q) w (hN d)) (hN d) = 0)
theorem c_unsure (T : HlS g P a) (W : HW d) (D : HlD I a d) : Cl mX3_unsureQuestions [.ref a] (g, I, P) (some (.int (bs (uns d) 6))) (g, I, P) := by
  have key : ∀ m q, q + m = 6 → Zt none mX3_unsureQuestions 0 0 4 [(0, .ref a), (1, .int (bs (uns d) q)), (2, .int (nI q))] [] (g, I, P) (some (.int (bs (uns d) 6))) (g, I, P) := by
    intro m
    induction m with
    | zero =>
      intro q hq
      obtain rfl : q = 6 := hq
      exact wX3_unsureQuestions_4 ⟨fun _ => ⟨rfl, rfl⟩, fun q => absurd (by decide) q⟩
    | succ m ih =>
      intro q hq
      have ih := ih (q + 1) (by omega)
      have hg : Cl mX11_got [.ref (a + 5), .int (nI q)] (g, I, P) (some (.int (hA d q))) (g, I, P) := by
        rw [← D.2.2.2.2.2.2.2 q (by omega)]
        exact c_got T.2.1.2.2.2.2 T.2.2.1.2.2.2.2 (by decide) (by omega)
      refine wX3_unsureQuestions_4 ⟨fun q => absurd q (nI_ge (b := 6) (by omega) (by decide)), fun _ => ⟨T.1, _, T.2.2.2.2.2.2.2, _, hg, T.1, _, c_within T W D, fun h => ?_, fun h => ⟨_, c_bit (by omega), ?_⟩⟩⟩
      · rw [bs_f (decide_eq_false (fun q => q h))] at ih
        rw [nI_1]; exact ih
      · rw [bs_t (decide_eq_true h)] at ih
        rw [nI_1]; exact ih
  exact eX3_unsureQuestions (wX3_unsureQuestions_0 (key 6 0 rfl))
end TREE
