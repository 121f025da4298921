/-! ===== the game letter by letter ===== -/
def anyB (p : Nat → Bool) : Nat → Bool
  | 0 => false
  | k + 1 => anyB p k || p k
theorem anyB_t {p : Nat → Bool} : ∀ N k, k < N → p k = true → anyB p N = true := by
  intro N
  induction N with
  | zero => intro k hk; omega
  | succ N ih =>
    intro k hk h
    show (anyB p N || p N) = true
    by_cases e : k = N
    · subst e; rw [h, Bool.or_true]
    · rw [ih k (by omega) h, Bool.true_or]
theorem anyB_e {p : Nat → Bool} : ∀ N, anyB p N = true → ∃ k, k < N ∧ p k = true := by
  intro N
  induction N with
  | zero => intro h; cases h
  | succ N ih =>
    intro h
    have h : (anyB p N || p N) = true := h
    rw [Bool.or_eq_true] at h
    rcases h with h | h
    · obtain ⟨k, a1, a2⟩ := ih h
      exact ⟨k, by omega, a2⟩
    · exact ⟨N, by omega, h⟩
theorem anyB_f {p : Nat → Bool} {N : Nat} (h : ∀ k, k < N → p k = false) : anyB p N = false := by
  cases e : anyB p N with
  | false => rfl
  | true =>
    obtain ⟨k, a1, a2⟩ := anyB_e N e
    rw [h k a1] at a2; cases a2
theorem anyB_iff {p q : Nat → Bool} {N : Nat} (h : ∀ k, k < N → p k = q k) : anyB p N = anyB q N := by
  induction N with
  | zero => rfl
  | succ N ih =>
    show (anyB p N || p N) = (anyB q N || q N)
    rw [ih (fun k hk => h k (by omega)), h N (by omega)]
theorem lcp_ge {u v : Nat → Nat} {n : Nat} : ∀ m i, n ≤ lcp u v m i ↔ n ≤ i ∨ (n ≤ i + m ∧ ∀ k, i ≤ k → k < n → u k = v k) := by
  intro m
  induction m with
  | zero => intro i; exact ⟨fun h => Or.inl h, fun h => by rcases h with h | h; exact h; exact h.1⟩
  | succ m ih =>
    intro i
    show n ≤ (if u i = v i then lcp u v m (i + 1) else i) ↔ _
    by_cases e : u i = v i
    · rw [if_pos e, ih (i + 1)]
      constructor
      · rintro (h | ⟨h1, h2⟩)
        · by_cases h3 : n ≤ i
          · exact Or.inl h3
          · refine Or.inr ⟨by omega, fun k k1 k2 => ?_⟩
            obtain rfl : k = i := by omega
            exact e
        · refine Or.inr ⟨by omega, fun k k1 k2 => ?_⟩
          by_cases h3 : k = i
          · subst h3; exact e
          · exact h2 k (by omega) k2
      · rintro (h | ⟨h1, h2⟩)
        · exact Or.inl (by omega)
        · exact Or.inr ⟨by omega, fun k k1 k2 => h2 k (by omega) k2⟩
    · rw [if_neg e]
      constructor
      · intro h; exact Or.inl h
      · rintro (h | ⟨h1, h2⟩)
        · exact h
        · by_cases h3 : n ≤ i
          · exact h3
          · exact absurd (h2 i (by omega) (by omega)) e
theorem sm_iff {d : HD} {n v w : Nat} : n ≤ hLcp d v w ↔ n ≤ hZ d v ∧ n ≤ hZ d w ∧ ∀ k, k < n → hL d v k = hL d w k := by
  unfold hLcp
  rw [lcp_ge]
  constructor
  · rintro (h | ⟨h1, h2⟩)
    · exact ⟨by omega, by omega, fun k hk => by omega⟩
    · exact ⟨by omega, by omega, fun k hk => h2 k (by omega) hk⟩
  · rintro ⟨h1, h2, h3⟩
    exact Or.inr ⟨by omega, fun k _ hk => h3 k hk⟩
theorem sm_tr {d : HD} {n u v w : Nat} (h1 : n ≤ hLcp d u v) (h2 : n ≤ hLcp d v w) : n ≤ hLcp d u w := by
  rw [sm_iff] at h1 h2 ⊢
  exact ⟨h1.1, h2.2.1, fun k hk => (h1.2.2 k hk).trans (h2.2.2 k hk)⟩
theorem sm_rf {d : HD} {n w : Nat} (h : n ≤ hZ d w) : n ≤ hLcp d w w := sm_iff.mpr ⟨h, h, fun _ _ => rfl⟩
def whole (d : HD) (n w : Nat) : Bool := anyB (fun o => decide (hZ d o = n ∧ hLcp d o w = n)) (hN d)
theorem whole_sm {d : HD} {n v w : Nat} (h : n ≤ hLcp d v w) : whole d n v = whole d n w := by
  apply anyB_iff
  intro o ho
  apply decide_eq_decide.mpr
  have h' : n ≤ hLcp d w v := by rw [hLcp_comm]; exact h
  have l1 := hLcp_le d o v
  have l2 := hLcp_le d o w
  constructor
  · rintro ⟨a1, a2⟩
    have := sm_tr (show n ≤ hLcp d o v by omega) h
    exact ⟨a1, by omega⟩
  · rintro ⟨a1, a2⟩
    have := sm_tr (show n ≤ hLcp d o w by omega) h'
    exact ⟨a1, by omega⟩
def won (d : HD) : Nat → Nat → Nat → Bool
  | 0, _, _ => false
  | r + 1, n, w => anyB (fun o => decide (n < hZ d o ∧ n ≤ hLcp d o w) && (!whole d (n + 1) o && !won d r (n + 1) o)) (hN d)
def gd (d : HD) (r n w o : Nat) : Bool := decide (n < hZ d o ∧ n ≤ hLcp d o w) && (!whole d (n + 1) o && !won d r (n + 1) o)
theorem won_s {d : HD} {r n w : Nat} : won d (r + 1) n w = anyB (gd d r n w) (hN d) := rfl
theorem won_sm {d : HD} {r n v w : Nat} (h : n ≤ hLcp d v w) : won d r n v = won d r n w := by
  cases r with
  | zero => rfl
  | succ r =>
    rw [won_s, won_s]
    apply anyB_iff
    intro o ho
    unfold gd
    congr 1
    apply decide_eq_decide.mpr
    have h' : n ≤ hLcp d w v := by rw [hLcp_comm]; exact h
    exact ⟨fun a => ⟨a.1, sm_tr a.2 h⟩, fun a => ⟨a.1, sm_tr a.2 h'⟩⟩
def gdc (d : HD) (r n w c : Nat) : Bool := anyB (fun o => decide (hL d o n = c) && gd d r n w o) (hN d)
def wl (d : HD) : Nat → Nat → Nat → Option Nat
  | 0, _, _ => none
  | r + 1, n, w => lst (gdc d r n w) 6 0
theorem wl_won {d : HD} {r n w : Nat} (W : HW d) : oI (wl d r n w) = -1 ↔ won d r n w = false := by
  cases r with
  | zero => exact ⟨fun _ => rfl, fun _ => rfl⟩
  | succ r =>
    show oI (lst (gdc d r n w) 6 0) = -1 ↔ _
    cases hl : lst (gdc d r n w) 6 0 with
    | none =>
      refine ⟨fun _ => ?_, fun _ => rfl⟩
      rw [won_s]
      apply anyB_f
      intro o ho
      cases hg : gd d r n w o with
      | false => rfl
      | true =>
        exfalso
        have hg2 := hg
        unfold gd at hg2
        simp only [Bool.and_eq_true, decide_eq_true_eq] at hg2
        have hl6 := W.2.2.2.2 o n ho hg2.1.1
        have := lst_none _ _ hl (hL d o n) (by omega) (by omega)
        have t : gdc d r n w (hL d o n) = true := anyB_t _ o ho (by rw [hg, decide_eq_true rfl]; rfl)
        rw [t] at this; cases this
    | some c =>
      obtain ⟨l1, -, l3⟩ := lst_some _ _ _ hl
      refine ⟨fun h => absurd h (nI_m1' (by omega)), fun h => ?_⟩
      obtain ⟨o, o1, o2⟩ := anyB_e _ l1
      rw [Bool.and_eq_true] at o2
      rw [won_s, anyB_t _ o o1 o2.2] at h
      cases h
/-- a word that goes on so -/
def gon (d : HD) (n w c o : Nat) : Bool := decide (n < hZ d o ∧ hL d o n = c ∧ n ≤ hLcp d o w)
theorem gdc_n {d : HD} {r n w c : Nat} (h : lst (gon d n w c) (hN d) 0 = none) : gdc d r n w c = false := by
  apply anyB_f
  intro o ho
  have := lst_none _ _ h o (by omega) (by omega)
  unfold gon at this
  have := of_decide_eq_false this
  unfold gd
  cases h1 : decide (hL d o n = c) with
  | false => rfl
  | true =>
    rw [decide_eq_false (fun q => this ⟨q.1, of_decide_eq_true h1, q.2⟩)]; rfl
theorem gdc_v {d : HD} {r n w c v : Nat} (h : lst (gon d n w c) (hN d) 0 = some v) : gdc d r n w c = (!whole d (n + 1) v && !won d r (n + 1) v) := by
  obtain ⟨l1, -, l3⟩ := lst_some _ _ _ h
  obtain ⟨v1, v2, v3⟩ := of_decide_eq_true l1
  have key : ∀ o, n < hZ d o → hL d o n = c → n ≤ hLcp d o w → n + 1 ≤ hLcp d o v := by
    intro o o1 o2 o3
    rw [sm_iff]
    refine ⟨o1, v1, fun k hk => ?_⟩
    by_cases e : k = n
    · subst e; rw [o2, v2]
    · rw [sm_iff] at o3 v3
      rw [o3.2.2 k (by omega), v3.2.2 k (by omega)]
  cases hg : gdc d r n w c with
  | true =>
    obtain ⟨o, o1, o2⟩ := anyB_e _ hg
    unfold gd at o2
    simp only [Bool.and_eq_true, decide_eq_true_eq] at o2
    obtain ⟨a1, ⟨a2, a3⟩, a4, a5⟩ := o2
    rw [whole_sm (key o a2 a1 a3)] at a4
    rw [won_sm (key o a2 a1 a3)] at a5
    rw [a4, a5]; rfl
  | false =>
    cases hr : (!whole d (n + 1) v && !won d r (n + 1) v) with
    | false => rfl
    | true =>
      exfalso
      have : gdc d r n w c = true := anyB_t _ v (by omega) (by unfold gd; rw [hr, decide_eq_true v2, decide_eq_true ⟨v1, v3⟩]; rfl)
      rw [hg] at this; cases this
/-- the least of some numbers -/
def mO (p : Nat → Bool) (v : Nat → Nat) : Nat → Option Nat
  | 0 => none
  | k + 1 => if p k = true then (match mO p v k with
    | none => some (v k)
    | some b => if b ≤ v k then some b else some (v k)) else mO p v k
theorem mO_f {p : Nat → Bool} {v : Nat → Nat} {k : Nat} (h : p k = false) : mO p v (k + 1) = mO p v k := by
  show (if p k = true then _ else _) = _
  rw [if_neg (by rw [h]; decide)]
theorem mO_t {p : Nat → Bool} {v : Nat → Nat} {k : Nat} (h : p k = true) : mO p v (k + 1) = match mO p v k with
    | none => some (v k)
    | some b => if b ≤ v k then some b else some (v k) := by
  show (if p k = true then _ else _) = _
  rw [if_pos h]
theorem mO_s {p : Nat → Bool} {v : Nat → Nat} : ∀ N, (mO p v N = none → ∀ o, o < N → p o = false) ∧ ∀ b, mO p v N = some b → (∃ o, o < N ∧ p o = true ∧ v o = b) ∧ ∀ o, o < N → p o = true → b ≤ v o := by
  intro N
  induction N with
  | zero => exact ⟨fun _ o ho => by omega, fun b h => by cases h⟩
  | succ N ih =>
    cases hp : p N with
    | false =>
      rw [mO_f hp]
      refine ⟨fun h o ho => ?_, fun b h => ?_⟩
      · by_cases e : o = N
        · subst e; exact hp
        · exact ih.1 h o (by omega)
      · obtain ⟨⟨o, o1, o2⟩, h2⟩ := ih.2 b h
        refine ⟨⟨o, by omega, o2⟩, fun q hq hpq => ?_⟩
        by_cases e : q = N
        · subst e; rw [hp] at hpq; cases hpq
        · exact h2 q (by omega) hpq
    | true =>
      rw [mO_t hp]
      cases hm : mO p v N with
      | none =>
        refine ⟨fun h => (nomatch h), fun b h => ?_⟩
        cases h
        refine ⟨⟨N, by omega, hp, rfl⟩, fun q hq hpq => ?_⟩
        by_cases e : q = N
        · subst e; exact Nat.le_refl _
        · rw [ih.1 hm q (by omega)] at hpq; cases hpq
      | some c =>
        obtain ⟨⟨o, o1, o2, o3⟩, h2⟩ := ih.2 c hm
        simp only
        by_cases hc : c ≤ v N
        · rw [if_pos hc]
          refine ⟨fun h => (nomatch h), fun b h => ?_⟩
          cases h
          refine ⟨⟨o, by omega, o2, o3⟩, fun q hq hpq => ?_⟩
          by_cases e : q = N
          · subst e; exact hc
          · exact h2 q (by omega) hpq
        · rw [if_neg hc]
          refine ⟨fun h => (nomatch h), fun b h => ?_⟩
          cases h
          refine ⟨⟨N, by omega, hp, rfl⟩, fun q hq hpq => ?_⟩
          by_cases e : q = N
          · subst e; exact Nat.le_refl _
          · have := h2 q (by omega) hpq
            omega
theorem mO_lst {p : Nat → Bool} {v : Nat → Nat} {N M : Nat} (h : ∀ o, o < N → p o = true → v o < M) : mO p v N = lst (fun c => anyB (fun o => decide (v o = c) && p o) N) M 0 := by
  have s := mO_s (p := p) (v := v) N
  cases hl : lst (fun c => anyB (fun o => decide (v o = c) && p o) N) M 0 with
  | none =>
    cases hm : mO p v N with
    | none => rfl
    | some b =>
      exfalso
      obtain ⟨⟨o, o1, o2, o3⟩, -⟩ := s.2 b hm
      have := lst_none _ _ hl (v o) (by omega) (by have := h o o1 o2; omega)
      have t : anyB (fun q => decide (v q = v o) && p q) N = true := anyB_t _ o o1 (by rw [o2, decide_eq_true rfl]; rfl)
      rw [t] at this; cases this
  | some c =>
    obtain ⟨l1, -, l3⟩ := lst_some _ _ _ hl
    obtain ⟨q, q1, q2⟩ := anyB_e _ l1
    simp only [Bool.and_eq_true, decide_eq_true_eq] at q2
    cases hm : mO p v N with
    | none => rw [s.1 hm q q1] at q2; exact absurd q2.2 (by decide)
    | some b =>
      obtain ⟨⟨o, o1, o2, o3⟩, h2⟩ := s.2 b hm
      have hb := h2 q q1 q2.2
      by_cases e : b = c
      · rw [e]
      · exfalso
        have hlt : b < c := by omega
        -- b is found before c
        have : ∀ m w, w ≤ b → lst (fun c => anyB (fun o => decide (v o = c) && p o) N) m w = some c → b < w + m → False := by
          intro m
          induction m with
          | zero => intro w _ hh; cases hh
          | succ m ih =>
            intro w hw hh hbm
            cases hq : anyB (fun o => decide (v o = w) && p o) N with
            | false =>
              rw [lst_f (q := fun c => anyB (fun o => decide (v o = c) && p o) N) hq] at hh
              by_cases e2 : w = b
              · subst e2
                have t : anyB (fun q => decide (v q = w) && p q) N = true := anyB_t _ o o1 (by rw [o2, decide_eq_true o3]; rfl)
                rw [hq] at t; cases t
              · exact ih (w + 1) (by omega) hh (by omega)
            | true =>
              rw [lst_t (q := fun c => anyB (fun o => decide (v o = c) && p o) N) hq] at hh
              have := Option.some.inj hh
              omega
        exact this M 0 (by omega) hl (by omega)
section GHOST
variable {g : zG} {I : Nat → Nat → Int32} {P : Nat → Nat → Option Nat} {t : TD} {im : Nat → Option TD} {a : Nat} {d : HD}
theorem c_goingOn {n w c : Nat} (T : HlS g P a) (W : HW d) (D : HlD I a d) (hw : w < hN d) (hn : n ≤ 6) (hc : c < 6) : Cl mX3_wordGoingOn [.ref a, .int (nI w), .int (nI n), .int (nI c)] (g, I, P) (some (.int (oI (lst (gon d n w c) (hN d) 0)))) (g, I, P) := by
  have h10 := W.2.1
  have key : ∀ m o, o + m = hN d → Zt none mX3_wordGoingOn 0 0 3 [(0, .ref a), (1, .int (nI w)), (2, .int (nI n)), (3, .int (nI c)), (4, .int (nI o))] [] (g, I, P) (some (.int (oI (lst (gon d n w c) m o)))) (g, I, P) := by
    intro m
    induction m with
    | zero =>
      intro o ho
      obtain rfl : o = hN d := ho
      exact wX3_wordGoingOn_3 ⟨T.1, fun _ => ⟨rfl, rfl⟩, fun q => absurd (by rw [D.2.1]; exact Int32.le_refl _) q⟩
    | succ m ih =>
      intro o ho
      have ih := ih (o + 1) (by omega)
      have hz := (W.2.2.1 o (by omega)).2
      have no : ¬ (n < hZ d o ∧ hL d o n = c ∧ n ≤ hLcp d o w) → Zt none mX3_wordGoingOn 0 0 3 [(0, .ref a), (1, .int (nI w)), (2, .int (nI n)), (3, .int (nI c)), (4, .int (nI o + 1))] [] (g, I, P) (some (.int (oI (lst (gon d n w c) (m + 1) o)))) (g, I, P) := by
        intro h
        rw [lst_f (show gon d n w c o = false from decide_eq_false h), nI_1]; exact ih
      refine wX3_wordGoingOn_3 ⟨T.1, fun q => ?_, fun _ => ⟨T.1, _, c_sizeOf T W D (by omega), pk_le (hZ d o) n (fun h => no (fun q => by omega)) (fun h => ?_)⟩⟩
      · rw [D.2.1] at q
        exact absurd q (nI_ge (by omega) (by omega))
      · have hl := W.2.2.2.2 o n (by omega) h
        have lc := (hLcp_le d o w).1
        refine ⟨T.1, _, c_letterOf T W D (by omega) h, pq_eq (hL d o n) c (fun h2 => no (fun q => h2 q.2.1)) (fun h2 => pk_eq n 0 (fun h3 => ⟨?_, rfl⟩) (fun h3 => ⟨T.1, _, c_lcp T W D (by omega) hw, pk_lt (hLcp d o w) n (fun h4 => no (fun q => by omega)) (fun h4 => ⟨?_, rfl⟩)⟩))⟩
        · rw [lst_t (show gon d n w c o = true from decide_eq_true ⟨h, h2, by omega⟩)]; rfl
        · rw [lst_t (show gon d n w c o = true from decide_eq_true ⟨h, h2, h4⟩)]; rfl
  exact eX3_wordGoingOn (wX3_wordGoingOn_0 (key (hN d) 0 (by omega)))
theorem c_isWhole {n w : Nat} (T : HlS g P a) (W : HW d) (D : HlD I a d) (hw : w < hN d) (hn : n ≤ 6) : Cl mX3_isWhole [.ref a, .int (nI w), .int (nI n)] (g, I, P) (some (.int (zb (whole d n w)))) (g, I, P) := by
  have h10 := W.2.1
  have key : ∀ m o, o + m = hN d → anyB (fun o => decide (hZ d o = n ∧ hLcp d o w = n)) o = false → Zt none mX3_isWhole 0 0 2 [(0, .ref a), (1, .int (nI w)), (2, .int (nI n)), (3, .int (nI o))] [] (g, I, P) (some (.int (zb (whole d n w)))) (g, I, P) := by
    intro m
    induction m with
    | zero =>
      intro o ho hf
      obtain rfl : o = hN d := ho
      exact wX3_isWhole_2 ⟨T.1, fun _ => ⟨by rw [show whole d n w = false from hf]; rfl, rfl⟩, fun q => absurd (by rw [D.2.1]; exact Int32.le_refl _) q⟩
    | succ m ih =>
      intro o ho hf
      have hz := (W.2.2.1 o (by omega)).2
      have lc := (hLcp_le d o w).1
      have no : ¬ (hZ d o = n ∧ hLcp d o w = n) → Zt none mX3_isWhole 0 0 2 [(0, .ref a), (1, .int (nI w)), (2, .int (nI n)), (3, .int (nI o + 1))] [] (g, I, P) (some (.int (zb (whole d n w)))) (g, I, P) := by
        intro h
        rw [nI_1]
        refine ih (o + 1) (by omega) ?_
        show (anyB _ o || decide (hZ d o = n ∧ hLcp d o w = n)) = false
        rw [hf, decide_eq_false h]; rfl
      refine wX3_isWhole_2 ⟨T.1, fun q => ?_, fun _ => ⟨T.1, _, c_sizeOf T W D (by omega), pq_eq (hZ d o) n (fun h => no (fun q => h q.1)) (fun h => ⟨T.1, _, c_lcp T W D (by omega) hw, pq_eq (hLcp d o w) n (fun h2 => no (fun q => h2 q.2)) (fun h2 => ⟨?_, rfl⟩)⟩)⟩⟩
      · rw [D.2.1] at q
        exact absurd q (nI_ge (by omega) (by omega))
      · rw [show whole d n w = true from anyB_t _ o (by omega) (decide_eq_true ⟨h, h2⟩)]; rfl
  exact eX3_isWhole (wX3_isWhole_0 (key (hN d) 0 (by omega) rfl))
theorem c_winning (T : HlS g P a) (W : HW d) (D : HlD I a d) : ∀ r n w, n + r = 6 → w < hN d → Cl (mX11_winningLetter (r + 1)) [.ref a, .int (nI w), .int (nI n)] (g, I, P) (some (.int (oI (wl d r n w)))) (g, I, P) := by
  have h10 := W.2.1
  intro r
  induction r with
  | zero =>
    intro n w hn hw
    obtain rfl : n = 6 := hn
    exact eX11_winningLetter (wX11_winningLetter_0 ⟨fun _ => ⟨rfl, rfl⟩, fun _ => ⟨fun _ => ⟨rfl, rfl⟩, fun q => absurd (by decide) q⟩⟩)
  | succ r ih =>
    intro n w hn hw
    have key : ∀ m c, c + m = 6 → Zt none (mX11_winningLetter (r + 1 + 1)) 0 0 22 [(0, .ref a), (1, .int (nI w)), (2, .int (nI n)), (3, .int (nI c))] [] (g, I, P) (some (.int (oI (lst (gdc d r n w) m c)))) (g, I, P) := by
      intro m
      induction m with
      | zero =>
        intro c hc
        obtain rfl : c = 6 := hc
        exact wX11_winningLetter_22 ⟨fun _ => ⟨rfl, rfl⟩, fun q => absurd (by decide) q⟩
      | succ m ihc =>
        intro c hc
        have ihc := ihc (c + 1) (by omega)
        have no : gdc d r n w c = false → Zt none (mX11_winningLetter (r + 1 + 1)) 0 0 22 [(0, .ref a), (1, .int (nI w)), (2, .int (nI n)), (3, .int (nI c + 1))] [] (g, I, P) (some (.int (oI (lst (gdc d r n w) (m + 1) c)))) (g, I, P) := by
          intro h
          rw [lst_f h, nI_1]; exact ihc
        refine wX11_winningLetter_22 ⟨fun q => absurd q (nI_ge (b := 6) (by omega) (by decide)), fun _ => ⟨T.1, _, c_goingOn T W D hw (by omega) (by omega), ?_⟩⟩
        cases hl : lst (gon d n w c) (hN d) 0 with
        | none => exact ⟨fun _ => no (gdc_n hl), fun q => absurd rfl q⟩
        | some v =>
          obtain ⟨l1, -, l3⟩ := lst_some _ _ _ hl
          have e := gdc_v (r := r) hl
          refine ⟨fun q => absurd q (nI_m1' (by omega)), fun _ => ⟨T.1, _, by rw [nI_1]; exact c_isWhole T W D (by omega) (by omega), zq (fun h => no ?_) (fun h => ⟨_, by rw [nI_1]; exact ih (n + 1) v (by omega) (by omega), fun h2 => no ?_, fun h2 => ⟨?_, rfl⟩⟩)⟩⟩
          · rw [e, h]; rfl
          · have : won d r (n + 1) v = true := by
              cases hw2 : won d r (n + 1) v with
              | true => rfl
              | false => exact absurd ((wl_won W).mpr hw2) h2
            rw [e, this, Bool.not_true, Bool.and_false]
          · rw [lst_t (by rw [e, h, (wl_won W).mp h2]; rfl)]; rfl
    refine eX11_winningLetter (wX11_winningLetter_0 ⟨fun q => absurd q (nI_pos (by omega)), fun _ => ⟨fun q => absurd q (nI_ge (b := 6) (by omega) (by decide)), fun _ => ⟨T.1, _, c_hasWordN T W D (by omega), fun _ => key 6 0 rfl, fun q => ?_⟩⟩⟩)
    rw [decide_eq_true hw] at q
    exact absurd q (by decide)
theorem r_isWhole {n w h0 : Nat} (S : Sg g) (Q : Sp P) (W : HW d) (D : MhD I h0 d) (hw : w < hN d) (hn : n < 2 ^ 31) : Cl mX12_isWhole [.ref 95, .int (nI w), .int (nI n)] (g, I, P) (some (.int (zb (whole d n w)))) (g, I, P) := by
  have h10 := W.2.1
  have key : ∀ m o, o + m = hN d → Zt none mX12_isWhole 0 0 5 [(0, .ref 95), (1, .int (nI w)), (2, .int (nI n)), (3, .int (zb (anyB (fun o => decide (hZ d o = n ∧ hLcp d o w = n)) o))), (4, .int (nI o))] [] (g, I, P) (some (.int (zb (whole d n w)))) (g, I, P) := by
    intro m
    induction m with
    | zero =>
      intro o ho
      obtain rfl : o = hN d := ho
      exact wX12_isWhole_5 ⟨S.k 95 12 (by decide), fun _ => ⟨zb_or _, rfl, rfl⟩, fun q => absurd (by rw [D.2.2.2.1]; exact Int32.le_refl _) q⟩
    | succ m ih =>
      intro o ho
      have ih := ih (o + 1) (by omega)
      have e : anyB (fun o => decide (hZ d o = n ∧ hLcp d o w = n)) (o + 1) = (anyB (fun o => decide (hZ d o = n ∧ hLcp d o w = n)) o || decide (hZ d o = n ∧ hLcp d o w = n)) := rfl
      rw [e] at ih
      have hz := (W.2.2.1 o (by omega)).2
      have lc := (hLcp_le d o w).1
      generalize anyB (fun o => decide (hZ d o = n ∧ hLcp d o w = n)) o = A at ih ⊢
      refine wX12_isWhole_5 ⟨S.k 95 12 (by decide), fun q => ?_, fun _ => zq (fun h => ?_) (fun h => ⟨S.k 95 12 (by decide), _, r_longOf S Q W D (by omega), pq_eq (hZ d o) n (fun h2 => ?_) (fun h2 => pk_eq o w (fun h3 => ?_) (fun h3 => ⟨S.k 95 12 (by decide), _, r_lcp S Q W D (by omega) hw, pq_eq (hLcp d o w) n (fun h4 => ?_) (fun h4 => ?_)⟩))⟩)⟩
      · rw [D.2.2.2.1] at q
        exact absurd q (nI_ge (by omega) (by omega))
      · rw [h, Bool.true_or] at ih
        rw [nI_1]; exact ih
      · rw [h, decide_eq_false (fun q => h2 q.1)] at ih
        rw [nI_1]; exact ih
      · subst h3
        have := sm_rf (d := d) (n := n) (w := o) (by omega)
        rw [h, decide_eq_true ⟨h2, by omega⟩] at ih
        rw [nI_1]; exact ih
      · rw [h, decide_eq_false (fun q => h4 q.2)] at ih
        rw [nI_1]; exact ih
      · rw [h, decide_eq_true ⟨h2, h4⟩] at ih
        rw [nI_1]; exact ih
  exact eX12_isWhole (wX12_isWhole_0 (key (hN d) 0 (by omega)))
theorem r_isWon {r n w h0 : Nat} (S : Sg g) (Q : Sp P) (W : HW d) (D : MhD I h0 d) (hw : w < hN d) (hn : n + (r + 1) = 6) (h1 : ∀ o, o < hN d → n + 1 ≤ hZ d o → I 113 (7 * o + (n + 1)) = zb (won d r (n + 1) o)) : Cl mX12_isWon [.ref 95, .int (nI w), .int (nI n)] (g, I, P) (some (.int (zb (won d (r + 1) n w)))) (g, I, P) := by
  have h10 := W.2.1
  rw [won_s]
  have key : ∀ m o, o + m = hN d → Zt none mX12_isWon 0 0 5 [(0, .ref 95), (1, .int (nI w)), (2, .int (nI n)), (3, .int (zb (anyB (gd d r n w) o))), (4, .int (nI o))] [] (g, I, P) (some (.int (zb (anyB (gd d r n w) (hN d))))) (g, I, P) := by
    intro m
    induction m with
    | zero =>
      intro o ho
      obtain rfl : o = hN d := ho
      exact wX12_isWon_5 ⟨S.k 95 12 (by decide), fun _ => ⟨zb_or _, rfl, rfl⟩, fun q => absurd (by rw [D.2.2.2.1]; exact Int32.le_refl _) q⟩
    | succ m ih =>
      intro o ho
      have ih := ih (o + 1) (by omega)
      have e : anyB (gd d r n w) (o + 1) = (anyB (gd d r n w) o || gd d r n w o) := rfl
      rw [e] at ih
      have hz := (W.2.2.1 o (by omega)).2
      have lc := (hLcp_le d o w).1
      generalize anyB (gd d r n w) o = A at ih ⊢
      have no : gd d r n w o = false → Zt none mX12_isWon 0 0 5 [(0, .ref 95), (1, .int (nI w)), (2, .int (nI n)), (3, .int (zb A)), (4, .int (nI o + 1))] [] (g, I, P) (some (.int (zb (anyB (gd d r n w) (hN d))))) (g, I, P) := by
        intro h
        rw [h, Bool.or_false] at ih
        rw [nI_1]; exact ih
      have yes : n < hZ d o → n ≤ hLcp d o w → Zt none mX12_isWon 0 0 41 [(0, .ref 95), (1, .int (nI w)), (2, .int (nI n)), (3, .int (zb A)), (4, .int (nI o))] [] (g, I, P) (some (.int (zb (anyB (gd d r n w) (hN d))))) (g, I, P) := by
        intro a1 a2
        have eg : gd d r n w o = (!whole d (n + 1) o && !won d r (n + 1) o) := by unfold gd; rw [decide_eq_true ⟨a1, a2⟩, Bool.true_and]
        obtain ⟨v1, v2⟩ := ix (x := 7 * nI o + nI n + 1) (k := 7 * o + (n + 1)) (N := 70) (by rw [show (7 : Int32) = nI 7 from rfl, pk_mul, nI_add, nI_1, Nat.add_assoc]) (by omega) (by decide)
        refine wX12_isWon_41 (zq (fun h => ?_) (fun h => ⟨S.k 95 12 (by decide), _, by rw [nI_1]; exact r_isWhole S Q W D (by omega) (by omega), zq (fun h2 => ?_) (fun h2 => ⟨S.k 95 12 (by decide), 113, Q.p 95 37 113 (by decide), S.k 113 14 (by decide), by rw [S.l 113 70 (by decide)]; exact v1, ?_⟩)⟩))
        · rw [h, Bool.true_or] at ih
          rw [nI_1]; exact ih
        · have := no (by rw [eg, h2]; rfl)
          rw [h] at this; exact this
        · rw [v2, h1 o (by omega) a1]
          refine zq (fun h3 => ?_) (fun h3 => ?_)
          · have := no (by rw [eg, h3, Bool.not_true, Bool.and_false])
            rw [h] at this; exact this
          · rw [eg, h2, h3, h] at ih
            rw [nI_1]; exact ih
      refine wX12_isWon_5 ⟨S.k 95 12 (by decide), fun q => ?_, fun _ => ⟨S.k 95 12 (by decide), _, r_longOf S Q W D (by omega), pk_le (hZ d o) n (fun h => no ?_) (fun h => pk_eq o w (fun h2 => yes h ?_) (fun h2 => ⟨S.k 95 12 (by decide), _, r_lcp S Q W D (by omega) hw, pk_lt (hLcp d o w) n (fun h3 => no ?_) (fun h3 => yes h h3)⟩))⟩⟩
      · rw [D.2.2.2.1] at q
        exact absurd q (nI_ge (by omega) (by omega))
      · unfold gd; rw [decide_eq_false (fun q => by omega)]; rfl
      · subst h2; exact sm_rf (by omega)
      · unfold gd; rw [decide_eq_false (fun q => by omega)]; rfl
  exact eX12_isWon (wX12_isWon_0 (key (hN d) 0 (by omega)))
def Kv (I J : Nat → Nat → Int32) : Prop := ∀ c, c ≠ 113 → J c = I c
theorem Kv.m {I J : Nat → Nat → Int32} (h : Kv I J) : Km I J := fun c hc => h c (by omega)
theorem Kv.u {I J : Nat → Nat → Int32} (h : Kv I J) (k : Nat) (x : Int32) : Kv I (zU J 113 k x) := fun c hc => by funext j; rw [zU_a _ _ hc, h c hc]
theorem Kv.h {I J : Nat → Nat → Int32} {h0 : Nat} (h : Kv I J) (D : MhD I h0 d) : MhD J h0 d := D.keep (h 95 (by decide)) (h 96 (by decide))
def ghF (y w : Int32) : Int32 := if y = 0 then (if w = -1 then 0 else 1) else w
theorem r_ghost {h0 : Nat} {y : Int32} (S : Sg g) (Q : Sp P) (W : HW d) (D : MhD I h0 d) : ∃ J, Zt none mX12_ghost 0 0 14 [(0, .ref 95), (2, .int y), (3, .int 6)] [] (g, I, P) (some (.int (ghF y (oI (wl d 6 0 0))))) (g, J, P) ∧ Kv I J := by
  have h10 := W.2.1
  have fin : ∀ (K : Nat → Nat → Int32), Kv I K → (∀ o, o < hN d → K 113 (7 * o + 1) = zb (won d 5 1 o)) → Zt none mX12_ghost 0 0 84 [(0, .ref 95), (2, .int y), (3, .int (-1)), (4, .int 0)] [] (g, K, P) (some (.int (ghF y (oI (wl d 6 0 0))))) (g, K, P) := by
    intro K hK h1
    have DK := hK.h D
    have e : wl d 6 0 0 = mO (gd d 5 0 0) (fun o => hL d o 0) (hN d) := by
      rw [mO_lst (M := 6) (fun o ho hg => by
        unfold gd at hg
        simp only [Bool.and_eq_true, decide_eq_true_eq] at hg
        exact W.2.2.2.2 o 0 ho hg.1.1)]
      rfl
    rw [e]
    have key : ∀ m w, w + m = hN d → Zt none mX12_ghost 0 0 84 [(0, .ref 95), (2, .int y), (3, .int (oI (mO (gd d 5 0 0) (fun o => hL d o 0) w))), (4, .int (nI w))] [] (g, K, P) (some (.int (ghF y (oI (mO (gd d 5 0 0) (fun o => hL d o 0) (hN d)))))) (g, K, P) := by
      intro m
      induction m with
      | zero =>
        intro w hw
        obtain rfl : w = hN d := hw
        refine wX12_ghost_84 ⟨S.k 95 12 (by decide), fun _ => ⟨fun q => ⟨fun q2 => ⟨?_, rfl⟩, fun q2 => ⟨?_, rfl⟩⟩, fun q => ⟨?_, rfl⟩⟩, fun q => absurd (by rw [DK.2.2.2.1]; exact Int32.le_refl _) q⟩
        · unfold ghF; rw [if_pos q, if_neg q2]
        · unfold ghF; rw [if_pos q, if_pos q2]
        · unfold ghF; rw [if_neg q]
      | succ m ih =>
        intro w hw
        have ih := ih (w + 1) (by omega)
        have hz := W.2.2.1 w (by omega)
        have hl := W.2.2.2.2 w 0 (by omega) (by omega)
        have eg : gd d 5 0 0 w = (!whole d 1 w && !won d 5 1 w) := by unfold gd; rw [decide_eq_true ⟨by omega, Nat.zero_le _⟩, Bool.true_and]
        have no : gd d 5 0 0 w = false → Zt none mX12_ghost 0 0 84 [(0, .ref 95), (2, .int y), (3, .int (oI (mO (gd d 5 0 0) (fun o => hL d o 0) w))), (4, .int (nI w + 1))] [] (g, K, P) (some (.int (ghF y (oI (mO (gd d 5 0 0) (fun o => hL d o 0) (hN d)))))) (g, K, P) := by
          intro h
          rw [mO_f h] at ih
          rw [nI_1]; exact ih
        obtain ⟨v1, v2⟩ := ix (x := 7 * nI w + 1) (k := 7 * w + 1) (N := 70) (by rw [show (7 : Int32) = nI 7 from rfl, pk_mul, nI_1]) (by omega) (by decide)
        have rl : Cl mX12_letterOf [.ref 95, .int (nI w), .int 0] (g, K, P) (some (.int (nI (hL d w 0)))) (g, K, P) := r_letterOf (k := 0) S Q W DK (by omega) (by omega)
        refine wX12_ghost_84 ⟨S.k 95 12 (by decide), fun q => ?_, fun _ => ⟨S.k 95 12 (by decide), _, r_isWhole (n := 1) S Q W DK (by omega) (by decide), zq (fun h => no (by rw [eg, h]; rfl)) (fun h => ⟨S.k 95 12 (by decide), 113, Q.p 95 37 113 (by decide), S.k 113 14 (by decide), by rw [S.l 113 70 (by decide)]; exact v1, ?_⟩)⟩⟩
        · rw [DK.2.2.2.1] at q
          exact absurd q (nI_ge (by omega) (by omega))
        · rw [v2, h1 w (by omega)]
          refine zq (fun h2 => no (by rw [eg, h2, Bool.not_true, Bool.and_false])) (fun h2 => ?_)
          rw [mO_t (by rw [eg, h, h2]; rfl)] at ih
          cases hm : mO (gd d 5 0 0) (fun o => hL d o 0) w with
          | none =>
            rw [hm] at ih
            exact ⟨fun _ => ⟨S.k 95 12 (by decide), _, rl, by rw [nI_1]; exact ih⟩, fun q => absurd rfl q⟩
          | some b =>
            rw [hm] at ih
            simp only at ih
            obtain ⟨⟨o, o1, o2, o3⟩, -⟩ := (mO_s (p := gd d 5 0 0) (v := fun o => hL d o 0) w).2 b hm
            have hb6 : b < 6 := by
              unfold gd at o2
              simp only [Bool.and_eq_true, decide_eq_true_eq] at o2
              rw [← o3]
              exact W.2.2.2.2 o 0 (by omega) o2.1.1
            refine ⟨fun q => absurd q (nI_m1' (by omega)), fun _ => ⟨S.k 95 12 (by decide), _, rl, pk_le b (hL d w 0) (fun h3 => ?_) (fun h3 => ⟨S.k 95 12 (by decide), _, rl, ?_⟩)⟩⟩
            · rw [if_pos h3] at ih
              rw [nI_1]; exact ih
            · rw [if_neg (by omega)] at ih
              rw [nI_1]; exact ih
    exact key (hN d) 0 (by omega)
  have key : ∀ n r (K : Nat → Nat → Int32), n + r = 6 → Kv I K → (0 < r → ∀ o, o < hN d → n + 1 ≤ hZ d o → K 113 (7 * o + (n + 1)) = zb (won d (r - 1) (n + 1) o)) → ∃ J, Zt none mX12_ghost 0 0 14 [(0, .ref 95), (2, .int y), (3, .int (nI n))] [] (g, K, P) (some (.int (ghF y (oI (wl d 6 0 0))))) (g, J, P) ∧ Kv I J := by
    intro n
    induction n with
    | zero =>
      intro r K hr hK h1
      obtain rfl : r = 6 := by omega
      exact ⟨K, wX12_ghost_14 ⟨fun _ => fin K hK (fun o ho => h1 (by decide) o ho (W.2.2.1 o ho).1), fun q => absurd (by decide) q⟩, hK⟩
    | succ n ih =>
      intro r K hr hK h1
      have inner : ∀ m w (K : Nat → Nat → Int32), w + m = hN d → Kv I K → (0 < r → ∀ o, o < hN d → n + 2 ≤ hZ d o → K 113 (7 * o + (n + 2)) = zb (won d (r - 1) (n + 2) o)) → (∀ o, o < w → n + 1 ≤ hZ d o → K 113 (7 * o + (n + 1)) = zb (won d r (n + 1) o)) → ∃ J, Zt none mX12_ghost 0 0 21 [(0, .ref 95), (2, .int y), (3, .int (nI (n + 1))), (4, .int (nI w))] [] (g, K, P) (some (.int (ghF y (oI (wl d 6 0 0))))) (g, J, P) ∧ Kv I J := by
        intro m
        induction m with
        | zero =>
          intro w K hw hK a1 a2
          obtain rfl : w = hN d := hw
          obtain ⟨J, z, z2⟩ := ih (r + 1) K (by omega) hK (fun _ o ho hz => a2 o ho hz)
          exact ⟨J, wX12_ghost_21 ⟨S.k 95 12 (by decide), fun _ => by rw [nI_a1, nI_d1]; exact z, fun q => absurd (by rw [(hK.h D).2.2.2.1]; exact Int32.le_refl _) q⟩, z2⟩
        | succ m ihw =>
          intro w K hw hK a1 a2
          have DK := hK.h D
          have hz := W.2.2.1 w (by omega)
          obtain ⟨v1, v2⟩ := ix (x := 7 * nI w + nI (n + 1)) (k := 7 * w + (n + 1)) (N := 70) (by rw [show (7 : Int32) = nI 7 from rfl, pk_mul, nI_add]) (by omega) (by decide)
          have nx : ∀ x : Int32, (n + 1 ≤ hZ d w → x = zb (won d r (n + 1) w)) → ∃ J, Zt none mX12_ghost 0 0 21 [(0, .ref 95), (2, .int y), (3, .int (nI (n + 1))), (4, .int (nI w + 1))] [] (g, zU K 113 (7 * nI w + nI (n + 1)).toNatClampNeg x, P) (some (.int (ghF y (oI (wl d 6 0 0))))) (g, J, P) ∧ Kv I J := by
            intro x hx
            rw [v2, nI_1]
            refine ihw (w + 1) _ (by omega) (hK.u _ _) (fun hr o ho hzo => by rw [zU_k _ _ (by omega)]; exact a1 hr o ho hzo) (fun o ho hzo => ?_)
            by_cases e : o = w
            · subst e; rw [zU_s]; exact hx hzo
            · rw [zU_k _ _ (by omega)]; exact a2 o (by omega) hzo
          by_cases hs : hZ d w < n + 1
          · obtain ⟨J, z, z2⟩ := nx 0 (fun h => by omega)
            refine ⟨J, wX12_ghost_21 ⟨S.k 95 12 (by decide), fun q => ?_, fun _ => ⟨S.k 95 12 (by decide), 113, Q.p 95 37 113 (by decide), S.k 95 12 (by decide), _, r_longOf S Q W DK (by omega), fun _ => ⟨S.k 113 14 (by decide), by rw [S.l 113 70 (by decide)]; exact v1, z⟩, fun q => absurd (nI_lt hs (by omega)) q⟩⟩, z2⟩
            rw [DK.2.2.2.1] at q
            exact absurd q (nI_ge (by omega) (by omega))
          · have rw0 : Cl mX12_isWon [.ref 95, .int (nI w), .int (nI (n + 1))] (g, K, P) (some (.int (zb (won d r (n + 1) w)))) (g, K, P) := by
              cases r with
              | zero =>
                -- n + 1 = 6: no word is longer
                have key : ∀ m o, o + m = hN d → Zt none mX12_isWon 0 0 5 [(0, .ref 95), (1, .int (nI w)), (2, .int (nI (n + 1))), (3, .int 0), (4, .int (nI o))] [] (g, K, P) (some (.int 0)) (g, K, P) := by
                  intro m
                  induction m with
                  | zero =>
                    intro o ho
                    obtain rfl : o = hN d := ho
                    exact wX12_isWon_5 ⟨S.k 95 12 (by decide), fun _ => ⟨Or.inl rfl, rfl, rfl⟩, fun q => absurd (by rw [DK.2.2.2.1]; exact Int32.le_refl _) q⟩
                  | succ m ih =>
                    intro o ho
                    have ih := ih (o + 1) (by omega)
                    have hzo := W.2.2.1 o (by omega)
                    refine wX12_isWon_5 ⟨S.k 95 12 (by decide), fun q => ?_, fun _ => ⟨S.k 95 12 (by decide), _, r_longOf S Q W DK (by omega), fun _ => by rw [nI_1]; exact ih, fun q => absurd (nI_le (by omega) (by omega)) q⟩⟩
                    rw [DK.2.2.2.1] at q
                    exact absurd q (nI_ge (by omega) (by omega))
                exact eX12_isWon (wX12_isWon_0 (key (hN d) 0 (by omega)))
              | succ r => exact r_isWon S Q W DK (by omega) (by omega) (fun o ho hzo => a1 (by omega) o ho hzo)
            obtain ⟨J, z, z2⟩ := nx (zb (won d r (n + 1) w)) (fun _ => rfl)
            refine ⟨J, wX12_ghost_21 ⟨S.k 95 12 (by decide), fun q => ?_, fun _ => ⟨S.k 95 12 (by decide), 113, Q.p 95 37 113 (by decide), S.k 95 12 (by decide), _, r_longOf S Q W DK (by omega), fun q => absurd q (nI_nlt (by omega) (by omega)), fun _ => ⟨S.k 95 12 (by decide), _, rw0, zp (fun h => ⟨S.k 113 14 (by decide), by rw [S.l 113 70 (by decide)]; exact v1, ?_⟩) (fun h => ⟨S.k 113 14 (by decide), by rw [S.l 113 70 (by decide)]; exact v1, ?_⟩)⟩⟩⟩, z2⟩
            · rw [DK.2.2.2.1] at q
              exact absurd q (nI_ge (by omega) (by omega))
            · rw [h] at z; exact z
            · rw [h] at z; exact z
      obtain ⟨J, z, z2⟩ := inner (hN d) 0 K (by omega) hK h1 (fun o ho => by omega)
      exact ⟨J, wX12_ghost_14 ⟨fun q => absurd q (nI_ge (a := 0) (by omega) (by omega)), fun _ => z⟩, z2⟩
  exact key 6 0 I rfl (fun _ _ => rfl) (fun h => absurd h (by decide))
theorem b_ghost (L : LI g I P t im) (x1 y : Int32) : ∃ (w : Int32) (J : Nat → Nat → Int32), Cl mX11_ghost [.ref 0, .int x1, .int y] (g, I, P) (some (.int w)) (g, I, P) ∧ Cl mX12_ghost [.ref 95, .int x1, .int y] (g, I, P) (some (.int w)) (g, J, P) ∧ Km I J := by
  have L0 := L
  obtain ⟨S, Q, W, D, M, -⟩ := L
  have n2 := W.2.1.1
  cases hp : pk x1 (tNh t) with
  | none => exact ⟨-2, I, eX11_ghost (wX11_ghost_0 ⟨S.k 0 11 (by decide), 1, Q.p 0 0 1 (by decide), S.k 1 9 (by decide), _, c_hillN L0 hp, fun _ => ⟨rfl, rfl⟩, fun b hb => (nomatch hb)⟩), eX12_ghost (wX12_ghost_0 ⟨S.k 95 12 (by decide), _, _, r_isHill0 S Q W M hp, fun q => absurd rfl q, fun _ => ⟨rfl, rfl⟩⟩), Km.rf I⟩
  | some i =>
    have hi : i < tNh t := (pk_some (by omega) hp).1
    obtain ⟨hW, hX⟩ := W.2.1.2 i hi
    have T := HlS_i S Q (i := i) (by omega)
    have D1 : HlD I (8 + 16 * i) (tH t i) := D.2.2.1 i hi
    obtain ⟨J1, z, E, f, -⟩ := r_isHill S Q W M hp
    obtain ⟨J, zr, kr⟩ := r_ghost (y := y) S Q hW E
    have cw : Cl (mX11_winningLetter 7) [.ref (8 + 16 * i), .int 0, .int 0] (g, I, P) (some (.int (oI (wl (tH t i) 6 0 0)))) (g, I, P) := by
      by_cases h0 : 0 < hN (tH t i)
      · exact c_winning T hW D1 6 0 0 rfl h0
      · have e : wl (tH t i) 6 0 0 = none := by
          have hf : ∀ c, gdc (tH t i) 5 0 0 c = false := fun c => anyB_f (fun k hk => by omega)
          show lst (gdc (tH t i) 5 0 0) 6 0 = none
          rw [lst_f (hf _), lst_f (hf _), lst_f (hf _), lst_f (hf _), lst_f (hf _), lst_f (hf _)]; rfl
        rw [e]
        refine eX11_winningLetter (wX11_winningLetter_0 ⟨fun _ => ⟨rfl, rfl⟩, fun _ => ⟨fun _ => ⟨rfl, rfl⟩, fun _ => ⟨T.1, _, c_hasWordN (w := 0) T hW D1 (by decide), fun q => ?_, fun _ => ⟨rfl, rfl⟩⟩⟩⟩)
        rw [decide_eq_false h0] at q
        exact absurd rfl q
    refine ⟨_, J, eX11_ghost (wX11_ghost_0 ⟨S.k 0 11 (by decide), 1, Q.p 0 0 1 (by decide), S.k 1 9 (by decide), _, c_hillY L0 hp, fun q => (nomatch q), fun b hb => ?_⟩), eX12_ghost (wX12_ghost_0 ⟨S.k 95 12 (by decide), _, _, z, fun _ => zr, fun q => absurd q (by decide)⟩), f.m.tr kr.m⟩
    cases hb
    refine ⟨_, cw, fun q => ⟨fun q2 => ⟨?_, rfl⟩, fun q2 => ⟨?_, rfl⟩⟩, fun q => ⟨?_, rfl⟩⟩
    · unfold ghF; rw [if_pos q, if_neg q2]
    · unfold ghF; rw [if_pos q, if_pos q2]
    · unfold ghF; rw [if_neg q]
end GHOST
