/-! ===== rows that can be read twice: states, the shortest ===== -/
/-- a state: l letters of the word a are left behind the shorter row, whose last word is b -/
def twV (d : HD) (l a b : Nat) : Prop := 1 ≤ l ∧ l < hZ d a ∧ a < hN d ∧ b < hN d
/-- w may come behind the shorter row, and its letters are as those that are left -/
def twG (d : HD) (l a b w : Nat) : Prop := w < hN d ∧ tb (hBeh d b) w = true ∧ ∀ k, k < min (hZ d w) l → hL d w k = hL d a (hZ d a - l + k)
def twN (d : HD) : Nat → Nat → Nat → Nat → Nat → Prop
  | 0, l, a, b, n => a < hN d ∧ b < hN d ∧ wi1 d b a = true ∧ l = hZ d a - hZ d b ∧ n = hZ d a
  | k + 1, l, a, b, n => ∃ l' a' b' n' w, twN d k l' a' b' n' ∧ twG d l' a' b' w ∧ ((hZ d w < l' ∧ l = l' - hZ d w ∧ a = a' ∧ b = w ∧ n = n') ∨ (l' < hZ d w ∧ l = hZ d w - l' ∧ a = w ∧ b = a' ∧ n = n' + hZ d w - l'))
def twR (d : HD) (l a b n : Nat) : Prop := ∃ k, twN d k l a b n
/-- some row of n letters can be read twice -/
def twT (d : HD) (n : Nat) : Prop := ∃ l a b w, twR d l a b n ∧ twG d l a b w ∧ hZ d w = l
def twA (d : HD) (x : Int32) : Prop := (∃ n, n ≤ 24 ∧ x = nI n ∧ twT d n ∧ ∀ m, m < n → ¬ twT d m) ∨ (x = -1 ∧ ∀ m, m ≤ 24 → ¬ twT d m)
theorem twA_u {d : HD} {x y : Int32} (h : twA d x) (h2 : twA d y) : x = y := by
  rcases h with ⟨n, h1, h3, h4, h5⟩ | ⟨h1, h3⟩
  · rcases h2 with ⟨m, g1, g3, g4, g5⟩ | ⟨g1, g3⟩
    · have a1 : ¬ m < n := fun e => h5 m e g4
      have a2 : ¬ n < m := fun e => g5 n e h4
      rw [h3, g3, show n = m by omega]
    · exact absurd h4 (g3 n h1)
  · rcases h2 with ⟨m, g1, g3, g4, g5⟩ | ⟨g1, g3⟩
    · exact absurd g4 (h3 m g1)
    · rw [h1, g1]
theorem wi1_1 {d : HD} {b a : Nat} (h : wi1 d b a = true) : hZ d b < hZ d a := by
  unfold wi1 at h
  rw [decide_eq_true_eq] at h
  exact h.1
theorem twN_v {d : HD} (W : HW d) : ∀ k l a b n, twN d k l a b n → twV d l a b ∧ 1 ≤ n := by
  intro k
  induction k with
  | zero =>
    rintro l a b n ⟨h1, h2, h3, h4, h5⟩
    have := wi1_1 h3
    have z1 := W.2.2.1 b h2
    have z2 := W.2.2.1 a h1
    exact ⟨⟨by omega, by omega, h1, h2⟩, by omega⟩
  | succ k ih =>
    rintro l a b n ⟨l', a', b', n', w, h1, h2, h3⟩
    obtain ⟨⟨v1, v2, v3, v4⟩, v5⟩ := ih _ _ _ _ h1
    have z := W.2.2.1 w h2.1
    rcases h3 with ⟨c1, c2, c3, c4, c5⟩ | ⟨c1, c2, c3, c4, c5⟩
    · subst c2 c3 c4 c5
      exact ⟨⟨by omega, by omega, v3, h2.1⟩, v5⟩
    · subst c2 c3 c4 c5
      exact ⟨⟨by omega, by omega, h2.1, v3⟩, by omega⟩
theorem twR_v {d : HD} (W : HW d) {l a b n : Nat} (h : twR d l a b n) : twV d l a b ∧ 1 ≤ n := by
  obtain ⟨k, h⟩ := h
  exact twN_v W k l a b n h
theorem twR_0 {d : HD} {a b : Nat} (ha : a < hN d) (hb : b < hN d) (h : wi1 d b a = true) : twR d (hZ d a - hZ d b) a b (hZ d a) := ⟨0, ha, hb, h, rfl, rfl⟩
theorem twR_a {d : HD} {l a b n w : Nat} (h : twR d l a b n) (G : twG d l a b w) (hz : hZ d w < l) : twR d (l - hZ d w) a w n := by
  obtain ⟨k, h⟩ := h
  exact ⟨k + 1, l, a, b, n, w, h, G, Or.inl ⟨hz, rfl, rfl, rfl, rfl⟩⟩
theorem twR_b {d : HD} {l a b n w : Nat} (h : twR d l a b n) (G : twG d l a b w) (hz : l < hZ d w) : twR d (hZ d w - l) w a (n + hZ d w - l) := by
  obtain ⟨k, h⟩ := h
  exact ⟨k + 1, l, a, b, n, w, h, G, Or.inr ⟨hz, rfl, rfl, rfl, rfl⟩⟩
/-- values that are closed under steps, up to N, are at most the lengths -/
theorem tw_low {d : HD} (W : HW d) {V : Nat → Nat → Nat → Nat} {N : Nat} (h0 : ∀ a b, a < hN d → b < hN d → wi1 d b a = true → V (hZ d a - hZ d b) a b ≤ hZ d a) (h1 : ∀ l a b w, twV d l a b → V l a b ≤ N → twG d l a b w → (hZ d w < l → V (l - hZ d w) a w ≤ V l a b) ∧ (l < hZ d w → V l a b + hZ d w - l ≤ N → V (hZ d w - l) w a ≤ V l a b + hZ d w - l)) : ∀ k l a b n, twN d k l a b n → n ≤ N → V l a b ≤ n := by
  intro k
  induction k with
  | zero =>
    rintro l a b n ⟨a1, a2, a3, a4, a5⟩ hn
    rw [a4, a5]
    exact h0 a b a1 a2 a3
  | succ k ih =>
    rintro l a b n ⟨l', a', b', n', w, a1, a2, a3⟩ hn
    have v := (twN_v W _ _ _ _ _ a1).1
    rcases a3 with ⟨c1, c2, c3, c4, c5⟩ | ⟨c1, c2, c3, c4, c5⟩
    · subst c2 c3 c4 c5
      have i := ih _ _ _ _ a1 hn
      have := (h1 _ _ _ _ v (by omega) a2).1 c1
      omega
    · subst c2 c3 c4 c5
      have i := ih _ _ _ _ a1 (by omega)
      have := (h1 _ _ _ _ v (by omega) a2).2 c1 (by omega)
      omega
theorem tw_none {d : HD} (W : HW d) {V : Nat → Nat → Nat → Nat} {N : Nat} (h0 : ∀ a b, a < hN d → b < hN d → wi1 d b a = true → V (hZ d a - hZ d b) a b ≤ hZ d a) (h1 : ∀ l a b w, twV d l a b → V l a b ≤ N → twG d l a b w → hZ d w ≠ l ∧ (hZ d w < l → V (l - hZ d w) a w ≤ V l a b) ∧ (l < hZ d w → V (hZ d w - l) w a ≤ V l a b + hZ d w - l)) : ∀ n, n ≤ N → ¬ twT d n := by
  rintro n hn ⟨l, a, b, w, ⟨k, hk⟩, G, hz⟩
  have := tw_low W h0 (fun l a b w v hv g => ⟨(h1 l a b w v hv g).2.1, fun x _ => (h1 l a b w v hv g).2.2 x⟩) k l a b n hk hn
  exact (h1 l a b w (twN_v W _ _ _ _ _ hk).1 (by omega) G).1 hz
/-! the class's row: by what is left, ahead, late -/
def ix3 (l a b : Nat) : Nat := 100 * l + 10 * a + b
def upd3 (A : Nat → Nat) (i x : Nat) : Nat → Nat := fun j => if j = i then min (A j) x else A j
theorem upd3_le (A : Nat → Nat) (i x j : Nat) : upd3 A i x j ≤ A j := by
  unfold upd3; split <;> omega
theorem upd3_s (A : Nat → Nat) (i x : Nat) : upd3 A i x i = min (A i) x := by unfold upd3; rw [if_pos rfl]
theorem upd3_n (A : Nat → Nat) {i x j : Nat} (h : j ≠ i) : upd3 A i x j = A j := by unfold upd3; rw [if_neg h]
theorem ix3_i {d : HD} (W : HW d) {l a b l' a' b' : Nat} (h : twV d l a b) (h' : twV d l' a' b') (e : ix3 l a b = ix3 l' a' b') : l = l' ∧ a = a' ∧ b = b' := by
  have hNn := W.2.1
  obtain ⟨-, -, h3, h4⟩ := h
  obtain ⟨-, -, g3, g4⟩ := h'
  unfold ix3 at e
  omega
theorem ix3_lt {d : HD} (W : HW d) {l a b : Nat} (h : twV d l a b) : ix3 l a b < 600 ∧ l ≤ 5 ∧ a < 10 ∧ b < 10 := by
  have hNn := W.2.1
  obtain ⟨-, h2, h3, h4⟩ := h
  have := (W.2.2.1 a h3).2
  unfold ix3
  omega
def twB (v l a b n l0 a0 b0 : Nat) : Prop := v < n ∨ (v = n ∧ (l0 < l ∨ (l = l0 ∧ (a < a0 ∨ (a = a0 ∧ b < b0)))))
def twE (d : HD) (A : Nat → Nat) (l a b w : Nat) : Prop := twG d l a b w → hZ d w ≠ l ∧ (hZ d w < l → A (ix3 (l - hZ d w) a w) ≤ A (ix3 l a b)) ∧ (l < hZ d w → A (ix3 (hZ d w - l) w a) ≤ A (ix3 l a b) + hZ d w - l)
/-- all states ahead of a place have gone on -/
def twI (d : HD) (A : Nat → Nat) (n l0 a0 b0 : Nat) : Prop := ∀ l a b, twV d l a b → twB (A (ix3 l a b)) l a b n l0 a0 b0 → ∀ w, twE d A l a b w
/-- lengths that are there, and those of the beginnings -/
def twS (d : HD) (A : Nat → Nat) : Prop := (∀ l a b, a < hN d → b < hN d → A (ix3 l a b) < 1000 → twR d l a b (A (ix3 l a b))) ∧ ∀ i, A i ≤ 1000
def tw0 (d : HD) (A : Nat → Nat) : Prop := ∀ a b, a < hN d → b < hN d → wi1 d b a = true → A (ix3 (hZ d a - hZ d b) a b) ≤ hZ d a
theorem twS.u {d : HD} {A : Nat → Nat} {l a b x : Nat} (W : HW d) (h : twS d A) (r : twR d l a b x) : twS d (upd3 A (ix3 l a b) x) := by
  refine ⟨fun l' a' b' va vb hv => ?_, fun i => Nat.le_trans (upd3_le _ _ _ _) (h.2 i)⟩
  by_cases e : ix3 l' a' b' = ix3 l a b
  · obtain ⟨rfl, rfl, rfl⟩ : l' = l ∧ a' = a ∧ b' = b := by
      have hNn := W.2.1
      obtain ⟨-, -, g3, g4⟩ := (twR_v W r).1
      unfold ix3 at e
      omega
    rw [upd3_s] at hv ⊢
    by_cases hc : A (ix3 l' a' b') ≤ x
    · rw [show min (A (ix3 l' a' b')) x = A (ix3 l' a' b') by omega] at hv ⊢
      exact h.1 _ _ _ va vb hv
    · rw [show min (A (ix3 l' a' b')) x = x by omega]
      exact r
  · rw [upd3_n _ e] at hv ⊢
    exact h.1 _ _ _ va vb hv
theorem tw0.u {d : HD} {A : Nat → Nat} (h : tw0 d A) (i x : Nat) : tw0 d (upd3 A i x) := fun a b ha hb hw => Nat.le_trans (upd3_le _ _ _ _) (h a b ha hb hw)
theorem twE.u {d : HD} {A : Nat → Nat} {l a b w i x : Nat} (h : twE d A l a b w) (e : upd3 A i x (ix3 l a b) = A (ix3 l a b)) : twE d (upd3 A i x) l a b w := by
  intro G
  obtain ⟨h1, h2, h3⟩ := h G
  rw [e]
  exact ⟨h1, fun z => Nat.le_trans (upd3_le _ _ _ _) (h2 z), fun z => Nat.le_trans (upd3_le _ _ _ _) (h3 z)⟩
theorem twI.u {d : HD} {A : Nat → Nat} {n l0 a0 b0 l a b x : Nat} (W : HW d) (h : twI d A n l0 a0 b0) (v : twV d l a b) (hx : ¬ twB x l a b n l0 a0 b0) : twI d (upd3 A (ix3 l a b) x) n l0 a0 b0 := by
  intro l' a' b' v' hb w
  by_cases e : upd3 A (ix3 l a b) x (ix3 l' a' b') = A (ix3 l' a' b')
  · rw [e] at hb
    exact (h l' a' b' v' hb w).u e
  · exfalso
    by_cases e2 : ix3 l' a' b' = ix3 l a b
    · obtain ⟨rfl, rfl, rfl⟩ := ix3_i W v' v e2
      rw [upd3_s] at e hb
      rw [show min (A (ix3 l' a' b')) x = x by omega] at hb
      exact hx hb
    · exact e (upd3_n _ e2)
theorem tw_end {d : HD} {A : Nat → Nat} {n l0 a0 b0 N : Nat} (W : HW d) (h : twI d A n l0 a0 b0) (h0 : tw0 d A) (hN : N < n) : ∀ m, m ≤ N → ¬ twT d m :=
  tw_none W (V := fun l a b => A (ix3 l a b)) h0 (fun l a b w v hv G => h l a b v (Or.inl (by have : A (ix3 l a b) ≤ N := hv; omega)) w G)
