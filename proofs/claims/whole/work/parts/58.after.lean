/-! ===== after ===== -/
def rwI (T : Nat → Nat) : Nat → Nat
  | 0 => 0
  | s + 1 => if T s ≤ T (rwI T s) then rwI T s else s
theorem rwI_le (T : Nat → Nat) : ∀ s, rwI T (s + 1) ≤ s := by
  intro s
  induction s with
  | zero => show (if T 0 ≤ T (rwI T 0) then rwI T 0 else 0) ≤ 0; split <;> exact Nat.le_refl _
  | succ s ih => show (if T (s + 1) ≤ T (rwI T (s + 1)) then rwI T (s + 1) else s + 1) ≤ s + 1; split <;> omega
def wdI (T : Nat → Nat) (s : Nat) : Int32 := if s = 0 ∨ T (rwI T s) = 0 then -1 else nI (rwI T s)
def wdM (T : Nat → Nat) (s : Nat) : Nat := if s = 0 then 0 else T (rwI T s)
theorem wdM_s (T : Nat → Nat) (k : Nat) : wdM T (k + 1) = T (rwI T (k + 1)) := by unfold wdM; rw [if_neg (Nat.succ_ne_zero k)]
theorem rwI_1 (T : Nat → Nat) : rwI T (0 + 1) = 0 := by
  have := rwI_le T 0
  omega
theorem wd_keep {T : Nat → Nat} {k : Nat} (h : T k ≤ wdM T k) : wdI T (k + 1) = wdI T k ∧ wdM T (k + 1) = wdM T k := by
  cases k with
  | zero =>
    have h : T 0 ≤ 0 := h
    rw [wdM_s]
    unfold wdI
    rw [rwI_1, if_pos (Or.inr (by omega)), if_pos (Or.inl rfl)]
    exact ⟨rfl, by show T 0 = 0; omega⟩
  | succ k =>
    rw [wdM_s] at h
    have er : rwI T (k + 1 + 1) = rwI T (k + 1) := by
      show (if T (k + 1) ≤ T (rwI T (k + 1)) then rwI T (k + 1) else k + 1) = _
      rw [if_pos h]
    rw [wdM_s, wdM_s, er]
    refine ⟨?_, rfl⟩
    unfold wdI
    rw [er]
    by_cases c : T (rwI T (k + 1)) = 0
    · rw [if_pos (Or.inr c), if_pos (Or.inr c)]
    · rw [if_neg (fun h => h.elim (fun h => by omega) c), if_neg (fun h => h.elim (fun h => by omega) c)]
theorem wd_new {T : Nat → Nat} {k : Nat} (h : wdM T k < T k) : wdI T (k + 1) = nI k ∧ wdM T (k + 1) = T k := by
  have hr : rwI T (k + 1) = k := by
    cases k with
    | zero => exact rwI_1 T
    | succ k =>
      rw [wdM_s] at h
      show (if T (k + 1) ≤ T (rwI T (k + 1)) then rwI T (k + 1) else k + 1) = _
      rw [if_neg (by omega)]
  rw [wdM_s, hr]
  refine ⟨?_, rfl⟩
  unfold wdI
  rw [hr, if_neg (fun h => h.elim (fun h => by omega) (fun h => by omega))]
def fm (m : Nat) (z : Nat → Nat) : Nat → Nat
  | 0 => m
  | s + 1 => max (fm m z s) (z s)
theorem fm_ge {m : Nat} {z : Nat → Nat} : ∀ n, m ≤ fm m z n ∧ ∀ j, j < n → z j ≤ fm m z n := by
  intro n
  induction n with
  | zero => exact ⟨Nat.le_refl _, fun j hj => by omega⟩
  | succ n ih =>
    have e : fm m z (n + 1) = max (fm m z n) (z n) := rfl
    refine ⟨by rw [e]; omega, fun j hj => ?_⟩
    by_cases h : j = n
    · subst h; rw [e]; omega
    · have := ih.2 j (by omega)
      rw [e]; omega
theorem fm_le {m M : Nat} {z : Nat → Nat} (hm : m ≤ M) : ∀ n, (∀ j, j < n → z j ≤ M) → fm m z n ≤ M := by
  intro n
  induction n with
  | zero => intro _; exact hm
  | succ n ih =>
    intro h
    have := ih (fun j hj => h j (by omega))
    have := h n (by omega)
    show max (fm m z n) (z n) ≤ M
    omega
theorem stp_full {d : HD} {q q' : QD} {k s l : Nat} (h : stp d q k s l = some q') : s < hS d ∧ qF q ≤ qF q' ∧ (qF q' = qF q ∨ qZ q' s = qF q' ∨ qF q' = qF q) := by
  unfold stp at h
  by_cases h1 : s < hS d ∧ tb (qS q) s = false
  · rw [if_pos h1] at h
    refine ⟨h1.1, ?_⟩
    have add : ∀ (q1 : QD) x f, qF q1 = qF q → qZ q1 s = qZ q s → qF q ≤ qF (qAdd q1 s l x f) ∧ (qF (qAdd q1 s l x f) = qF q ∨ qZ (qAdd q1 s l x f) s = qF (qAdd q1 s l x f) ∨ qF (qAdd q1 s l x f) = qF q) := by
      intro q1 x f e1 e2
      show qF q ≤ max (qF q1) (qZ q1 s + 1) ∧ (max (qF q1) (qZ q1 s + 1) = qF q ∨ up1 (qZ q1) s (qZ q1 s + 1) s = max (qF q1) (qZ q1 s + 1) ∨ _)
      rw [up1_s, e1, e2]
      refine ⟨by omega, ?_⟩
      by_cases c : qF q ≤ qZ q s + 1
      · exact Or.inr (Or.inl (by omega))
      · exact Or.inl (by omega)
    by_cases k0 : k = 0
    · rw [if_pos k0] at h
      unfold stF at h
      by_cases hz : qZ q s < 12
      · rw [if_pos hz] at h
        by_cases hf : fitQ d (qAdd q s l 9 0) s = 0
        · rw [if_pos hf] at h; cases h
        · rw [if_neg hf] at h; cases h
          exact add _ _ _ rfl rfl
      · rw [if_neg hz] at h; cases h
    · rw [if_neg k0] at h
      by_cases k1 : k = 1
      · rw [if_pos k1] at h
        unfold stG at h
        by_cases hz : qZ q s < 12
        · rw [if_pos hz] at h; cases h
          exact add _ _ _ rfl rfl
        · rw [if_neg hz] at h; cases h
      · rw [if_neg k1] at h
        by_cases k2 : k = 2
        · rw [if_pos k2] at h
          unfold stM at h
          cases hw : lst (mW d q s) (hN d) 0 with
          | none => rw [hw] at h; cases h
          | some w => rw [hw] at h; cases h; exact ⟨Nat.le_refl _, Or.inl rfl⟩
        · rw [if_neg k2] at h
          by_cases k3 : k = 3
          · rw [if_pos k3] at h
            unfold stC at h
            by_cases hc : qP q s < qZ q s
            · rw [if_pos hc] at h; cases h; exact ⟨Nat.le_refl _, Or.inl rfl⟩
            · rw [if_neg hc] at h; cases h
          · rw [if_neg k3] at h; cases h; exact ⟨Nat.le_refl _, Or.inl rfl⟩
  · rw [if_neg h1] at h; cases h
theorem fm_stp {d : HD} {n : Nat} {q q' : QD} {k s l : Nat} (W : HW d) (V : QW d n q') (h : stp d q k s l = some q') : fm (qF q) (qZ q') (hS d) = qF q' := by
  obtain ⟨h1, h2, h3⟩ := stp_full h
  have h4 := W.1.2
  obtain ⟨g1, g2⟩ := fm_ge (m := qF q) (z := qZ q') (hS d)
  have le := fm_le (z := qZ q') h2 (hS d) (fun j hj => (V.2 j (by omega)).2.2.1)
  have := g2 s h1
  omega
def fgd (q : QD) (s : Nat) : Bool := decide (nsum (qG q s) (qZ q s) ≠ 0)
def F_after (d : HD) (q : QD) (f x : Int32) : Int32 := if x = 0 then wdI (qT q) (hS d) else if x = 1 then f else if x = 2 then nI (qF q) else if x = 3 then bs (fgd q) (hS d) else -2
theorem gsum_le {d : HD} {n s : Nat} {q : QD} (V : QW d n q) (hs : s < 4) : nsum (qG q s) (qZ q s) ≤ 12 := by
  obtain ⟨w1, w2, w3, w4, w5, w6⟩ := V.2 s hs
  have := nsum_le (f := qG q s) (b := 1) (qZ q s) (fun k hk => (w6 k hk).2.2)
  omega
section AFTER
variable {g : zG} {I : Nat → Nat → Int32} {P : Nat → Nat → Option Nat} {t : TD} {im : Nat → Option TD} {a : Nat} {d : HD} {q : QD} {n s h0 d0 : Nat} {c : CD}
theorem c_wordiest (E : GE g P a d) (D : HlD I a d) (G : GS I q) (V : QW d n q) (hn : n < 2 ^ 30) : Cl mX2_wordiest [.ref 59] (g, I, P) (some (.int (wdI (qT q) (hS d)))) (g, I, P) := by
  obtain ⟨S, Q, T, W, X, e1, -⟩ := E
  have h4 := W.1.2
  have tb : ∀ j, j < 4 → qT q j < 2 ^ 30 := fun j hj => by have := (V.2 j hj).2.2.2.1; omega
  have key : ∀ m k, k + m = hS d → Zt none mX2_wordiest 0 0 6 [(0, .ref 59), (1, .int (wdI (qT q) k)), (2, .int (nI (wdM (qT q) k))), (3, .int (nI k))] [] (g, I, P) (some (.int (wdI (qT q) (hS d)))) (g, I, P) := by
    intro m
    induction m with
    | zero =>
      intro k hk
      obtain rfl : k = hS d := hk
      exact wX2_wordiest_6 ⟨S.k 59 2 (by decide), _, e1, T.1, fun _ => ⟨rfl, rfl⟩, fun q => absurd (by rw [D.1]; exact Int32.le_refl _) q⟩
    | succ m ih =>
      intro k hk
      have ih := ih (k + 1) (by omega)
      have a3 := (G.2.2 k (by omega)).2.2.1
      have t1 := tb k (by omega)
      have t2 : wdM (qT q) k < 2 ^ 30 := by
        unfold wdM
        split
        · decide
        · rename_i hk0
          obtain ⟨k', rfl⟩ : ∃ k', k = k' + 1 := ⟨k - 1, by omega⟩
          have := rwI_le (qT q) k'
          exact tb _ (by omega)
      have er : rwI (qT q) (k + 1) = if qT q k ≤ qT q (rwI (qT q) k) then rwI (qT q) k else k := rfl
      refine wX2_wordiest_6 ⟨S.k 59 2 (by decide), _, e1, T.1, fun h => ?_, fun _ => ⟨S.k 59 2 (by decide), 68, Q.p 59 6 68 (by decide), _, c_got (S.k 68 13 (by decide)) (S.l 68 4 (by decide)) (by decide) (by omega), pk_le (qT q k) (wdM (qT q) k) (fun h => ?_) (fun h => ⟨S.k 59 2 (by decide), 68, Q.p 59 6 68 (by decide), _, c_got (S.k 68 13 (by decide)) (S.l 68 4 (by decide)) (by decide) (by omega), ?_⟩) a3 rfl⟩⟩
      · rw [D.1] at h
        exact absurd h (nI_ge (by omega) (by omega))
      · have e := wd_keep h
        rw [e.1, e.2] at ih
        rw [nI_1]; exact ih
      · have e := wd_new h
        rw [e.1, e.2] at ih
        rw [nI_1, a3]; exact ih
  exact eX2_wordiest (wX2_wordiest_0 (key (hS d) 0 (by omega)))
theorem c_feigned (E : GE g P a d) (D : HlD I a d) (G : GS I q) (V : QW d n q) : Cl mX2_feigned [.ref 59] (g, I, P) (some (.int (bs (fgd q) (hS d)))) (g, I, P) := by
  have E0 := E
  obtain ⟨S, Q, T, W, X, e1, -⟩ := E
  have h4 := W.1.2
  have key : ∀ m k, k + m = hS d → Zt none mX2_feigned 0 0 4 [(0, .ref 59), (1, .int (bs (fgd q) k)), (2, .int (nI k))] [] (g, I, P) (some (.int (bs (fgd q) (hS d)))) (g, I, P) := by
    intro m
    induction m with
    | zero =>
      intro k hk
      obtain rfl : k = hS d := hk
      exact wX2_feigned_4 ⟨S.k 59 2 (by decide), _, e1, T.1, fun _ => ⟨rfl, rfl⟩, fun q => absurd (by rw [D.1]; exact Int32.le_refl _) q⟩
    | succ m ih =>
      intro k hk
      have ih := ih (k + 1) (by omega)
      have gl := gsum_le V (show k < 4 by omega)
      refine wX2_feigned_4 ⟨S.k 59 2 (by decide), _, e1, T.1, fun h => ?_, fun _ => ⟨S.k 59 2 (by decide), _, c_forged E0 G V (by omega), pk_le (nsum (qG q k) (qZ q k)) 0 (fun h => ?_) (fun h => ⟨_, c_bit (by omega), ?_⟩)⟩⟩
      · rw [D.1] at h
        exact absurd h (nI_ge (by omega) (by omega))
      · rw [bs_f (show fgd q k = false from decide_eq_false (by omega))] at ih
        rw [nI_1]; exact ih
      · rw [bs_t (show fgd q k = true from decide_eq_true (by omega))] at ih
        rw [nI_1]; exact ih
  exact eX2_feigned (wX2_feigned_0 (key (hS d) 0 (by omega)))
theorem r_after9 {f x : Int32} (S : Sg g) (Q : Sp P) (W : HW d) (D : MhD I h0 d) (G : RS I q) (V : QW d n q) (hn : n < 2 ^ 30) (hx : ¬ x < 0 ∧ ¬ 3 < x) : Zt none mX12_after 0 0 199 [(0, .ref 95), (3, .int x), (4, .int f), (5, .int (nI (qF q))), (6, .int 0), (7, .int 0), (8, .int 0)] [] (g, I, P) (some (.int (F_after d q f x))) (g, I, P) := by
  have h4 := W.1.2
  have h1 := W.1.1
  have tbd : ∀ j, j < 4 → qT q j < 2 ^ 30 := fun j hj => by have := (V.2 j hj).2.2.2.1; omega
  have r4 : ∀ k, k ≤ 4 → rwI (qT q) k < 4 := by
    intro k hk
    cases k with
    | zero => show 0 < 4; decide
    | succ k => have := rwI_le (qT q) k; omega
  have key : ∀ m k, k + m = hS d → Zt none mX12_after 0 0 199 [(0, .ref 95), (3, .int x), (4, .int f), (5, .int (nI (qF q))), (6, .int (nI (rwI (qT q) k))), (7, .int (bs (fgd q) k)), (8, .int (nI k))] [] (g, I, P) (some (.int (F_after d q f x))) (g, I, P) := by
    intro m
    induction m with
    | zero =>
      intro k hk
      obtain rfl : k = hS d := hk
      have r4' := r4 (hS d) h4
      obtain ⟨i1, i2⟩ := ix4 S (c := 105) (S.l 105 4 (by decide)) r4'
      have a3 := (G.2 _ r4').2.2.1
      have t1 := tbd _ r4'
      refine wX12_after_199 ⟨S.k 95 12 (by decide), fun _ => ⟨fun h => ⟨S.k 95 12 (by decide), 105, Q.p 95 23 105 (by decide), S.k 105 13 (by decide), i1, pq_eq (qT q (rwI (qT q) (hS d))) 0 (fun h2 => ⟨?_, rfl⟩) (fun h2 => ⟨?_, rfl⟩) (by rw [i2]; exact a3) rfl⟩, fun h => ⟨?_, rfl⟩, fun h => ⟨?_, rfl⟩, fun c0 c1 c2 => ⟨?_, rfl⟩⟩, fun q => absurd (by rw [D.2.2.1]; exact Int32.le_refl _) q⟩
      · unfold F_after wdI
        rw [if_pos h, if_neg (fun c => by omega)]
      · unfold F_after wdI
        rw [if_pos h, if_pos (Or.inr h2)]
      · unfold F_after
        rw [if_neg (by rw [h]; decide), if_pos h]
      · unfold F_after
        rw [if_neg (by rw [h]; decide), if_neg (by rw [h]; decide), if_pos h]
      · unfold F_after
        obtain ⟨y, -, y2, rfl⟩ := inN (lo := 0) (hi := 3) (by decide) (by decide) hx.1 hx.2
        have ne : ∀ i, ¬ nI y = nI i → y ≠ i := fun i h e => h (by rw [e])
        have n0 := ne 0 c0
        have n1 := ne 1 c1
        have n2 := ne 2 c2
        obtain rfl : y = 3 := by omega
        rw [if_neg c0, if_neg c1, if_neg c2, if_pos (show nI 3 = 3 from rfl)]
    | succ m ih =>
      intro k hk
      have ih := ih (k + 1) (by omega)
      have r4' := r4 k (by omega)
      obtain ⟨i1, i2⟩ := ix4 S (c := 105) (S.l 105 4 (by decide)) (show k < 4 by omega)
      obtain ⟨j1, j2⟩ := ix4 S (c := 105) (S.l 105 4 (by decide)) r4'
      have a3 := (G.2 k (by omega)).2.2.1
      have b3 := (G.2 _ r4').2.2.1
      have t1 := tbd k (by omega)
      have t2 := tbd _ r4'
      have gl := gsum_le V (show k < 4 by omega)
      have er : rwI (qT q) (k + 1) = if qT q k ≤ qT q (rwI (qT q) k) then rwI (qT q) k else k := rfl
      have fin : ∀ y, y = rwI (qT q) (k + 1) → Zt none mX12_after 0 0 232 [(0, .ref 95), (3, .int x), (4, .int f), (5, .int (nI (qF q))), (7, .int (bs (fgd q) k)), (8, .int (nI k))] [.int (nI y)] (g, I, P) (some (.int (F_after d q f x))) (g, I, P) := by
        rintro y rfl
        refine wX12_after_232 ⟨S.k 95 12 (by decide), _, r_feigned S Q G V (by omega), pk_le (nsum (qG q k) (qZ q k)) 0 (fun h => ?_) (fun h z hz => ?_)⟩
        · rw [bs_f (show fgd q k = false from decide_eq_false (by omega))] at ih
          rw [or_z, nI_1]; exact ih
        · rw [bs_t (show fgd q k = true from decide_eq_true (by omega))] at ih
          rw [hz, nI_1]; exact ih
      refine wX12_after_199 ⟨S.k 95 12 (by decide), fun h => ?_, fun _ => ⟨S.k 95 12 (by decide), 105, Q.p 95 23 105 (by decide), S.k 105 13 (by decide), i1, S.k 95 12 (by decide), 105, Q.p 95 23 105 (by decide), S.k 105 13 (by decide), j1, pk_le (qT q k) (qT q (rwI (qT q) k)) (fun h => fin _ (by rw [er, if_pos h])) (fun h => fin _ (by rw [er, if_neg (by omega)])) (by rw [i2]; exact a3) (by rw [j2]; exact b3)⟩⟩
      rw [D.2.2.1] at h
      exact absurd h (nI_ge (by omega) (by omega))
  exact key (hS d) 0 (by omega)
theorem r_after {x : Int32} (S : Sg g) (Q : Sp P) (W : HW d) (D : MhD I h0 d) (CW0 : CW c) (C : McD I d0 c) (hx : ¬ x < 0 ∧ ¬ 3 < x) : ∃ I1 J, Cl mX12_begins [.ref 95] (g, I, P) none (g, I1, P) ∧ Zt none mX12_after 0 0 41 [(0, .ref 95), (3, .int x), (4, .int (-1)), (5, .int 0), (6, .int 0)] [] (g, I1, P) (some (.int (F_after d (runQ d c c.1 0 q0 (-1)).2.1 (runQ d c c.1 0 q0 (-1)).2.2 x))) (g, J, P) ∧ KS I J := by
  have c40 := CW0.1
  have h4 := W.1.2
  obtain ⟨I1, z1, G1, e1, k1⟩ := r_begins (I := I) S Q
  have loop : ∀ m k (K : Nat → Nat → Int32) (q : QD) (f : Int32), k + m = c.1 → KS I K → RS K q → QW d k q → ∃ J, Zt none mX12_after 0 0 41 [(0, .ref 95), (3, .int x), (4, .int f), (5, .int (nI (qF q))), (6, .int (nI k))] [] (g, K, P) (some (.int (F_after d (runQ d c m k q f).2.1 (runQ d c m k q f).2.2 x))) (g, J, P) ∧ KS I J := by
    intro m
    induction m with
    | zero =>
      intro k K q f hk hK hG hV
      obtain rfl : k = c.1 := hk
      have CK := hK.toC C
      obtain ⟨i1, i2⟩ := ix96 S (x := K 95 16) (k := d0) CK.2.1 (by have := CK.1; omega)
      exact ⟨K, wX12_after_41 ⟨S.k 95 12 (by decide), 96, Q.p 95 0 96 (by decide), S.k 95 12 (by decide), S.k 96 13 (by decide), i1, fun _ => r_after9 S Q W (hK.h D) hG hV (by omega) hx, fun h => absurd (by rw [i2, CK.2.2.1]; exact Int32.le_refl _) h⟩, hK⟩
    | succ m ih =>
      intro k K q f hk hK hG hV
      have CK := hK.toC C
      have DK := hK.h D
      obtain ⟨i1, i2⟩ := ix96 S (x := K 95 16) (k := d0) CK.2.1 (by have := CK.1; omega)
      obtain ⟨⟨u1, u2⟩, ⟨v1, v2⟩, w1, w2⟩ := r_deed S CK (show k < c.1 by omega) c40 (y := nI k) rfl
      obtain ⟨t1, t2, -, -⟩ := CW0.2 k (by omega)
      obtain ⟨J1, z, hG1, hK1⟩ := r_does (k := c.2.1 k) (s := c.2.2.1 k) (x := c.2.2.2 k) (l := cl c k) S Q W DK hG hV t1 (by omega) (cl_l CW0 (by omega))
      have K1 := hK.tr hK1.toS
      have D1 := K1.h D
      have C1 := K1.toC C
      obtain ⟨⟨y1, y2⟩, -, -⟩ := r_deed S C1 (show k < c.1 by omega) c40 (y := nI k) rfl
      have nb : ¬ K 96 (K 95 16).toNatClampNeg ≤ nI k := by rw [i2, CK.2.2.1]; exact nI_ge (by omega) (by omega)
      cases hst : stp d q (c.2.1 k) (c.2.2.1 k) (cl c k) with
      | none =>
        rw [runQ_n hst]
        rw [hst] at hG1 z
        exact ⟨J1, wX12_after_41 ⟨S.k 95 12 (by decide), 96, Q.p 95 0 96 (by decide), S.k 95 12 (by decide), S.k 96 13 (by decide), i1, fun h => absurd h nb, fun _ => ⟨S.k 95 12 (by decide), 96, Q.p 95 0 96 (by decide), S.k 95 12 (by decide), S.k 96 13 (by decide), u1, S.k 95 12 (by decide), 96, Q.p 95 0 96 (by decide), S.k 95 12 (by decide), S.k 96 13 (by decide), v1, S.k 95 12 (by decide), 96, Q.p 95 0 96 (by decide), S.k 95 12 (by decide), S.k 96 13 (by decide), w1, S.k 95 12 (by decide), _, _, by rw [u2, v2, w2]; exact z, fun _ => r_after9 S Q W D1 hG1 hV (by omega) hx, fun h => absurd rfl h⟩⟩, K1⟩
      | some q' =>
        rw [runQ_s hst]
        rw [hst] at hG1 z
        have hV1 := stp_w hV (fun h => (cl_l CW0 (show k < c.1 by omega) h).2) hst
        have efm := fm_stp W hV1 hst
        obtain ⟨J, zz, z2⟩ := ih (k + 1) J1 q' (if c.2.1 k = 2 ∧ f = -1 then nI k else f) (by omega) K1 hG1 hV1
        have inner : ∀ r s, s + r = hS d → Zt none mX12_after 0 0 143 [(0, .ref 95), (3, .int x), (4, .int (if c.2.1 k = 2 ∧ f = -1 then nI k else f)), (5, .int (nI (fm (qF q) (qZ q') s))), (6, .int (nI k)), (7, .int (nI s))] [] (g, J1, P) (some (.int (F_after d (runQ d c m (k + 1) q' (if c.2.1 k = 2 ∧ f = -1 then nI k else f)).2.1 (runQ d c m (k + 1) q' (if c.2.1 k = 2 ∧ f = -1 then nI k else f)).2.2 x))) (g, J, P) := by
          intro r
          induction r with
          | zero =>
            intro s hs
            obtain rfl : s = hS d := hs
            rw [efm]
            exact wX12_after_143 ⟨S.k 95 12 (by decide), fun _ => by rw [nI_1]; exact zz, fun h => absurd (by rw [D1.2.2.1]; exact Int32.le_refl _) h⟩
          | succ r ihs =>
            intro s hs
            have ihs := ihs (s + 1) (by omega)
            have ef : fm (qF q) (qZ q') (s + 1) = max (fm (qF q) (qZ q') s) (qZ q' s) := rfl
            rw [ef] at ihs
            obtain ⟨l1, l2⟩ := ix4 S (c := 103) (S.l 103 4 (by decide)) (show s < 4 by omega)
            have a1 := (hG1.2 s (by omega)).1
            have a1 : J1 103 s = nI (qZ q' s) := a1
            have b1 := (hV1.2 s (by omega)).2.1
            have b2 : fm (qF q) (qZ q') s ≤ 12 := fm_le hV.1 s (fun j hj => (hV1.2 j (by omega)).2.1)
            refine wX12_after_143 ⟨S.k 95 12 (by decide), fun h => ?_, fun _ => ⟨S.k 95 12 (by decide), 103, Q.p 95 21 103 (by decide), S.k 103 13 (by decide), l1, pk_le (qZ q' s) (fm (qF q) (qZ q') s) (fun h => ?_) (fun h => ⟨S.k 95 12 (by decide), 103, Q.p 95 21 103 (by decide), S.k 103 13 (by decide), l1, ?_⟩) (by rw [l2]; exact a1) rfl⟩⟩
            · rw [D1.2.2.1] at h
              exact absurd h (nI_ge (by omega) (by omega))
            · rw [Nat.max_eq_left h] at ihs
              rw [nI_1]; exact ihs
            · rw [Nat.max_eq_right (by omega)] at ihs
              rw [l2, a1, nI_1]; exact ihs
        have i0 := inner (hS d) 0 (by omega)
        refine ⟨J, wX12_after_41 ⟨S.k 95 12 (by decide), 96, Q.p 95 0 96 (by decide), S.k 95 12 (by decide), S.k 96 13 (by decide), i1, fun h => absurd h nb, fun _ => ⟨S.k 95 12 (by decide), 96, Q.p 95 0 96 (by decide), S.k 95 12 (by decide), S.k 96 13 (by decide), u1, S.k 95 12 (by decide), 96, Q.p 95 0 96 (by decide), S.k 95 12 (by decide), S.k 96 13 (by decide), v1, S.k 95 12 (by decide), 96, Q.p 95 0 96 (by decide), S.k 95 12 (by decide), S.k 96 13 (by decide), w1, S.k 95 12 (by decide), _, _, by rw [u2, v2, w2]; exact z, fun h => absurd (show (1 : Int32) = 0 from h) (by decide), fun _ => ⟨fun hf => ?_, fun hf => ⟨S.k 95 12 (by decide), 96, Q.p 95 0 96 (by decide), S.k 95 12 (by decide), S.k 96 13 (by decide), y1, ?_⟩⟩⟩⟩, z2⟩
        · rw [if_neg (fun h => hf h.2)] at i0 ⊢
          exact i0
        · refine pq_eq (c.2.1 k) 2 (fun h2 => ?_) (fun h2 => ?_) y2 rfl
          · rw [if_neg (fun h => h2 h.1)] at i0 ⊢
            exact i0
          · rw [if_pos ⟨h2, hf⟩] at i0 ⊢
            exact i0
  obtain ⟨J, z, z2⟩ := loop c.1 0 I1 q0 (-1) (by omega) k1 G1 (q0_w d)
  exact ⟨I1, J, z1, z, z2⟩
theorem b_after (L : LI g I P t im) (x1 x2 x3 : Int32) : ∃ (w : Int32) (I1 : Nat → Nat → Int32) (P1 : Nat → Nat → Option Nat) (J : Nat → Nat → Int32), Cl mX11_after [.ref 0, .int x1, .int x2, .int x3] (g, I, P) (some (.int w)) (g, I1, P1) ∧ Kp I I1 ∧ KpP P P1 ∧ Cl mX12_after [.ref 95, .int x1, .int x2, .int x3] (g, I1, P1) (some (.int w)) (g, J, P1) ∧ Km I1 J := by
  have L0 := L
  obtain ⟨S, Q, W, D, M, -⟩ := L
  have n2 := W.2.1.1
  have n3 := W.2.2.1.1
  cases hp : pk x1 (tNh t) with
  | none => exact ⟨-2, I, P, I, eX11_after (wX11_after_0 ⟨S.k 0 11 (by decide), 1, Q.p 0 0 1 (by decide), S.k 1 9 (by decide), _, c_hillN L0 hp, fun _ => ⟨S.k 0 11 (by decide), 1, Q.p 0 0 1 (by decide), S.k 1 9 (by decide), _, c_centOf L0, fun _ => ⟨rfl, rfl⟩, fun _ _ => ⟨rfl, rfl⟩⟩, fun b hb => (nomatch hb)⟩), Kp.rf I, KpP.rf Q, eX12_after (wX12_after_0 ⟨S.k 95 12 (by decide), _, _, r_isHill0 S Q W M hp, fun _ => ⟨rfl, rfl⟩, fun q => absurd rfl q⟩), Km.rf I⟩
  | some i =>
    have hi : i < tNh t := (pk_some (by omega) hp).1
    obtain ⟨hW, hX⟩ := W.2.1.2 i hi
    have T := HlS_i S Q (i := i) (by omega)
    have D1 : HlD I (8 + 16 * i) (tH t i) := D.2.2.1 i hi
    cases hc : pk x2 (tNc t) with
    | none =>
      obtain ⟨J1, z, E, f, -⟩ := r_isHill S Q W M hp
      exact ⟨-2, I, P, J1, eX11_after (wX11_after_0 ⟨S.k 0 11 (by decide), 1, Q.p 0 0 1 (by decide), S.k 1 9 (by decide), _, c_hillY L0 hp, fun q => (nomatch q), fun b hb => ⟨S.k 0 11 (by decide), 1, Q.p 0 0 1 (by decide), S.k 1 9 (by decide), _, c_centN L0 hc, fun _ => ⟨rfl, rfl⟩, fun b hb => (nomatch hb)⟩⟩), Kp.rf I, KpP.rf Q, eX12_after (wX12_after_0 ⟨S.k 95 12 (by decide), _, _, z, fun q => absurd q (by decide), fun _ => ⟨S.k 95 12 (by decide), _, _, r_isCent0 S Q W (f.Mt M) hc, fun _ => ⟨rfl, rfl⟩, fun q => absurd rfl q⟩⟩), f.m⟩
    | some j =>
      have hj : j < tNc t := (pk_some (by omega) hc).1
      have CW0 := W.2.2.1.2 j hj
      have c40 := CW0.1
      have T2 := CnS_i S Q (i := j) (by omega)
      have D2 : CnD I (14 + 16 * j) (tC t j) := D.2.2.2.1 j hj
      obtain ⟨I1, zc, E1, D3, G3, V3, f3, kc⟩ := c_play (m := (tC t j).1) S Q T hW hX D1 (by omega) T2 CW0 D2 (by omega) (Nat.le_refl _)
      have Q1 := E1.2.1
      obtain ⟨J1, J2, y1, y2, y3, y4, y5⟩ := r_both S Q1 W (M.keep (kc 96 (by decide))) hp hc
      have cc : Cl mX11_after [.ref 0, .int x1, .int x2, .int x3] (g, I, P) (some (.int (F_after (tH t i) (runQ (tH t i) (tC t j) (tC t j).1 0 q0 (-1)).2.1 (runQ (tH t i) (tC t j) (tC t j).1 0 q0 (-1)).2.2 x3))) (g, I1, zU P 59 0 (some (8 + 16 * i))) := by
        refine eX11_after (wX11_after_0 ⟨S.k 0 11 (by decide), 1, Q.p 0 0 1 (by decide), S.k 1 9 (by decide), _, c_hillY L0 hp, fun q => (nomatch q), fun b hb => ⟨S.k 0 11 (by decide), 1, Q.p 0 0 1 (by decide), S.k 1 9 (by decide), _, c_centY L0 hc, fun q => (nomatch q), fun b2 hb2 => ?_⟩⟩)
        cases hb
        cases hb2
        have p59 : ∃ b, zU P 59 0 (some (8 + 16 * i)) 0 3 = some b := ⟨59, Q1.p 0 3 59 (by decide)⟩
        refine ⟨S.k 0 11 (by decide), 59, Q.p 0 3 59 (by decide), T2.1, S.k 59 2 (by decide), _, _, _, by rw [D2.1]; exact zc, fun h => ⟨S.k 0 11 (by decide), 59, Q1.p 0 3 59 (by decide), S.k 59 2 (by decide), _, c_wordiest E1 D3 G3 V3 (by omega), ?_, rfl⟩, fun h => ⟨S.k 0 11 (by decide), 59, Q1.p 0 3 59 (by decide), S.k 59 2 (by decide), ?_, rfl⟩, fun h => ⟨S.k 0 11 (by decide), 59, Q1.p 0 3 59 (by decide), S.k 59 2 (by decide), ?_, rfl⟩, fun h => ⟨S.k 0 11 (by decide), 59, Q1.p 0 3 59 (by decide), S.k 59 2 (by decide), _, c_feigned E1 D3 G3 V3, ?_, rfl⟩, fun c0 c1 c2 c3 => ⟨?_, rfl⟩⟩
        · unfold F_after; rw [if_pos h]
        · unfold F_after; rw [if_neg (by rw [h]; decide), if_pos h, f3]
        · unfold F_after; rw [if_neg (by rw [h]; decide), if_neg (by rw [h]; decide), if_pos h, G3.2.1]
        · unfold F_after; rw [if_neg (by rw [h]; decide), if_neg (by rw [h]; decide), if_neg (by rw [h]; decide), if_pos h]
        · unfold F_after; rw [if_neg c0, if_neg c1, if_neg c2, if_neg c3]
      by_cases hx : ¬ x3 < 0 ∧ ¬ 3 < x3
      · obtain ⟨J3, J, z3, z4, kr⟩ := r_after (x := x3) S Q1 hW y3 CW0 y4 hx
        refine ⟨_, I1, _, J, cc, kc, KpP_59 Q _, eX12_after (wX12_after_0 ⟨S.k 95 12 (by decide), _, _, y1, fun q => absurd q (by decide), fun _ => ⟨S.k 95 12 (by decide), _, _, y2, fun q => absurd q (by decide), fun _ => ⟨_, r_isIn, fun _ => ⟨S.k 95 12 (by decide), _, z3, z4⟩, fun h => ?_⟩⟩⟩), y5.m.tr kr.m⟩
        rw [decide_eq_true hx] at h
        exact absurd h (by decide)
      · have e : F_after (tH t i) (runQ (tH t i) (tC t j) (tC t j).1 0 q0 (-1)).2.1 (runQ (tH t i) (tC t j) (tC t j).1 0 q0 (-1)).2.2 x3 = -2 := by
          unfold F_after
          rw [if_neg (fun h => hx (by rw [h]; decide)), if_neg (fun h => hx (by rw [h]; decide)), if_neg (fun h => hx (by rw [h]; decide)), if_neg (fun h => hx (by rw [h]; decide))]
        rw [e] at cc
        refine ⟨-2, I1, _, J2, cc, kc, KpP_59 Q _, eX12_after (wX12_after_0 ⟨S.k 95 12 (by decide), _, _, y1, fun q => absurd q (by decide), fun _ => ⟨S.k 95 12 (by decide), _, _, y2, fun q => absurd q (by decide), fun _ => ⟨_, r_isIn, fun h => ?_, fun _ => ⟨rfl, rfl⟩⟩⟩⟩), y5.m⟩
        rw [decide_eq_false hx] at h
        exact absurd rfl h
end AFTER
