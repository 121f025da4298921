/-! ===== sets of words as numbers; rows of different words ===== -/
theorem st_del : ∀ s : Fin 1024, ∀ w : Fin 10, s.val.testBit w.val = true → nI s.val &&& (((1 : Int32) <<< (nI w.val &&& 31)) ^^^ (-1)) = nI (s.val ^^^ 2 ^ w.val) ∧ s.val ^^^ 2 ^ w.val < s.val ∧ bt (s.val ^^^ 2 ^ w.val) + 1 = bt s.val := by decide +kernel
theorem st_or : ∀ s : Fin 1024, ∀ w : Fin 10, nI s.val ||| (1 : Int32) <<< (nI w.val &&& 31) = nI (s.val ||| 2 ^ w.val) ∧ s.val ||| 2 ^ w.val < 1024 := by decide +kernel
theorem st_add : ∀ s : Fin 1024, ∀ w : Fin 10, s.val.testBit w.val = false → s.val < s.val ||| 2 ^ w.val ∧ bt (s.val ||| 2 ^ w.val) = bt s.val + 1 := by decide +kernel
theorem st_top : ∀ n : Fin 11, ∀ w : Fin 10, w.val < n.val → ∀ s : Nat, s < 2 ^ n.val → s ||| 2 ^ w.val < 2 ^ n.val := by
  intro n w h s hs
  exact Nat.or_lt_two_pow hs (Nat.pow_lt_pow_right (by decide) h)
theorem st_in {N : Nat} {s k : Nat} (hs : s < 2 ^ N) (h : s.testBit k = true) : k < N := by
  by_cases hk : k < N
  · exact hk
  · exfalso
    have : s < 2 ^ k := Nat.lt_of_lt_of_le hs (Nat.pow_le_pow_right (by decide) (by omega))
    rw [Nat.testBit_lt_two_pow this] at h
    cases h
theorem tB_or (s w k : Nat) : (s ||| 2 ^ w).testBit k = (s.testBit k || decide (w = k)) := by
  rw [Nat.testBit_or, Nat.testBit_two_pow]
theorem tB_xor (s w k : Nat) : (s ^^^ 2 ^ w).testBit k = (s.testBit k != decide (w = k)) := by
  rw [Nat.testBit_xor, Nat.testBit_two_pow]
theorem tB_ext {a b : Nat} (h : ∀ k, a.testBit k = b.testBit k) : a = b := Nat.eq_of_testBit_eq h
theorem tB_back {s w : Nat} (h : s.testBit w = false) : (s ||| 2 ^ w) ^^^ 2 ^ w = s := by
  apply tB_ext
  intro k
  rw [tB_xor, tB_or]
  by_cases e : w = k
  · subst e; rw [h, decide_eq_true rfl]; rfl
  · rw [decide_eq_false e, Bool.or_false]; cases s.testBit k <;> rfl
theorem tB_0 (k : Nat) : (0 : Nat).testBit k = false := Nat.zero_testBit k
/-- whether word w may come first in a row of just the set s -/
def hd (d : HD) : Nat → Nat → Nat → Bool
  | 0, _, _ => false
  | r + 1, s, w => s.testBit w && (decide (s ^^^ 2 ^ w = 0) || anyB (fun v => tb (hBeh d w) v && hd d r (s ^^^ 2 ^ w) v) (hN d))
theorem hd_fuel {d : HD} (W : HW d) : ∀ s r r' w, s < 1024 → w < hN d → s < r → s < r' → hd d r s w = hd d r' s w := by
  have h10 := W.2.1
  intro s
  induction s using Nat.strongRecOn with
  | ind s ih =>
    intro r r' w hs hw h1 h2
    obtain ⟨r, rfl⟩ : ∃ k, r = k + 1 := ⟨r - 1, by omega⟩
    obtain ⟨r', rfl⟩ : ∃ k, r' = k + 1 := ⟨r' - 1, by omega⟩
    show (s.testBit w && (decide (s ^^^ 2 ^ w = 0) || anyB (fun v => tb (hBeh d w) v && hd d r (s ^^^ 2 ^ w) v) (hN d))) = (s.testBit w && (decide (s ^^^ 2 ^ w = 0) || anyB (fun v => tb (hBeh d w) v && hd d r' (s ^^^ 2 ^ w) v) (hN d)))
    cases ht : s.testBit w with
    | false => rfl
    | true =>
      have a := (st_del ⟨s, hs⟩ ⟨w, by omega⟩ ht).2.1
      simp only at a
      rw [anyB_iff (fun v hv => by rw [ih (s ^^^ 2 ^ w) a r r' v (by omega) hv (by omega) (by omega)])]
def hH (d : HD) (s w : Nat) : Bool := hd d (s + 1) s w
theorem hH_s {d : HD} {s w : Nat} (W : HW d) (hs : s < 1024) (hw : w < hN d) : hH d s w = (s.testBit w && (decide (s ^^^ 2 ^ w = 0) || anyB (fun v => tb (hBeh d w) v && hH d (s ^^^ 2 ^ w) v) (hN d))) := by
  have h10 := W.2.1
  show (s.testBit w && (decide (s ^^^ 2 ^ w = 0) || anyB (fun v => tb (hBeh d w) v && hd d s (s ^^^ 2 ^ w) v) (hN d))) = _
  cases ht : s.testBit w with
  | false => rfl
  | true =>
    have a := (st_del ⟨s, hs⟩ ⟨w, by omega⟩ ht).2.1
    simp only at a
    rw [anyB_iff (fun v hv => by rw [hd_fuel W (s ^^^ 2 ^ w) s ((s ^^^ 2 ^ w) + 1) v (by omega) hv (by omega) (by omega)])]
    rfl
/-- the most of some -/
def mx (p : Nat → Bool) (v : Nat → Nat) : Nat → Nat
  | 0 => 0
  | w + 1 => if p w = true then max (mx p v w) (v w) else mx p v w
theorem mx_t {p : Nat → Bool} {v : Nat → Nat} {w : Nat} (h : p w = true) : mx p v (w + 1) = max (mx p v w) (v w) := by
  show (if p w = true then _ else _) = _
  rw [if_pos h]
theorem mx_f {p : Nat → Bool} {v : Nat → Nat} {w : Nat} (h : p w = false) : mx p v (w + 1) = mx p v w := by
  show (if p w = true then _ else _) = _
  rw [if_neg (by rw [h]; decide)]
theorem mx_ge {p : Nat → Bool} {v : Nat → Nat} : ∀ n k, k < n → p k = true → v k ≤ mx p v n := by
  intro n
  induction n with
  | zero => intro k hk; omega
  | succ n ih =>
    intro k hk hp
    by_cases e : k = n
    · subst e; rw [mx_t hp]; omega
    · have := ih k (by omega) hp
      cases h : p n with
      | false => rw [mx_f h]; exact this
      | true => rw [mx_t h]; omega
theorem mx_at {p : Nat → Bool} {v : Nat → Nat} : ∀ n, mx p v n = 0 ∨ ∃ k, k < n ∧ p k = true ∧ v k = mx p v n := by
  intro n
  induction n with
  | zero => exact Or.inl rfl
  | succ n ih =>
    cases h : p n with
    | false =>
      rw [mx_f h]
      rcases ih with h0 | ⟨k, a1, a2, a3⟩
      · exact Or.inl h0
      · exact Or.inr ⟨k, by omega, a2, a3⟩
    | true =>
      rw [mx_t h]
      by_cases hm : mx p v n ≤ v n
      · exact Or.inr ⟨n, by omega, h, by omega⟩
      · rcases ih with h0 | ⟨k, a1, a2, a3⟩
        · omega
        · exact Or.inr ⟨k, by omega, a2, by omega⟩
theorem mx_congr {p : Nat → Bool} {v v' : Nat → Nat} : ∀ n, (∀ k, k < n → p k = true → v k = v' k) → mx p v n = mx p v' n := by
  intro n
  induction n with
  | zero => intro _; rfl
  | succ n ih =>
    intro e
    have ih := ih (fun k hk => e k (by omega))
    cases h : p n with
    | false => rw [mx_f h, mx_f h, ih]
    | true => rw [mx_t h, mx_t h, ih, e n (by omega) h]
/-- the most words that may still come, when those of s are used and b is ahead -/
def mm (d : HD) : Nat → Nat → Nat → Nat
  | 0, _, _ => 0
  | r + 1, s, b => mx (fun w => !s.testBit w && tb (hBw d b) w) (fun w => 1 + mm d r (s ||| 2 ^ w) (w + 1)) (hN d)
theorem mm_le (d : HD) : ∀ r s b, mm d r s b ≤ r := by
  intro r
  induction r with
  | zero => intro s b; exact Nat.le_refl _
  | succ r ih =>
    intro s b
    rcases mx_at (p := fun w => !s.testBit w && tb (hBw d b) w) (v := fun w => 1 + mm d r (s ||| 2 ^ w) (w + 1)) (hN d) with h | ⟨k, -, -, h⟩
    · show mx _ _ _ ≤ _
      rw [h]; omega
    · show mx _ _ _ ≤ _
      rw [← h]
      have := ih (s ||| 2 ^ k) (k + 1)
      omega
theorem mm_fuel {d : HD} (W : HW d) : ∀ m s r r' b, m = 1024 - s → s < 1024 → m ≤ r → m ≤ r' → mm d r s b = mm d r' s b := by
  have h10 := W.2.1
  intro m
  induction m using Nat.strongRecOn with
  | ind m ih =>
    intro s r r' b hm hs h1 h2
    obtain ⟨r, rfl⟩ : ∃ k, r = k + 1 := ⟨r - 1, by omega⟩
    obtain ⟨r', rfl⟩ : ∃ k, r' = k + 1 := ⟨r' - 1, by omega⟩
    show mx _ (fun w => 1 + mm d r (s ||| 2 ^ w) (w + 1)) (hN d) = mx _ (fun w => 1 + mm d r' (s ||| 2 ^ w) (w + 1)) (hN d)
    apply mx_congr
    intro w hw hp
    rw [Bool.and_eq_true, Bool.not_eq_true'] at hp
    have a1 := (st_add ⟨s, hs⟩ ⟨w, by omega⟩ hp.1).1
    have a2 := (st_or ⟨s, hs⟩ ⟨w, by omega⟩).2
    simp only at a1 a2
    rw [ih (1024 - (s ||| 2 ^ w)) (by omega) (s ||| 2 ^ w) r r' (w + 1) rfl a2 (by omega) (by omega)]
def mM (d : HD) (s b : Nat) : Nat := mm d (1024 - s) s b
theorem mM_le (d : HD) (s b : Nat) : mM d s b ≤ 1024 := by
  have := mm_le d (1024 - s) s b
  unfold mM
  omega
theorem mM_s {d : HD} {s b : Nat} (W : HW d) (hs : s < 1024) : mM d s b = mx (fun w => !s.testBit w && tb (hBw d b) w) (fun w => 1 + mM d (s ||| 2 ^ w) (w + 1)) (hN d) := by
  have h10 := W.2.1
  unfold mM
  rw [show 1024 - s = (1023 - s) + 1 by omega]
  show mx _ (fun w => 1 + mm d (1023 - s) (s ||| 2 ^ w) (w + 1)) (hN d) = _
  apply mx_congr
  intro w hw hp
  rw [Bool.and_eq_true, Bool.not_eq_true'] at hp
  have a1 := (st_add ⟨s, hs⟩ ⟨w, by omega⟩ hp.1).1
  have a2 := (st_or ⟨s, hs⟩ ⟨w, by omega⟩).2
  simp only at a1 a2
  rw [mm_fuel W _ (s ||| 2 ^ w) (1023 - s) (1024 - (s ||| 2 ^ w)) (w + 1) rfl a2 (by omega) (Nat.le_refl _)]
def dj (t s : Nat) : Prop := ∀ k, t.testBit k = true → s.testBit k = false
/-- a row of a set that is left is not longer -/
theorem mM_ge {d : HD} (W : HW d) : ∀ t s b w, t < 1024 → s < 1024 → dj t s → w < hN d → tb (hBw d b) w = true → hH d t w = true → bt t ≤ mM d s b := by
  have h10 := W.2.1
  intro t
  induction t using Nat.strongRecOn with
  | ind t ih =>
    intro s b w ht hs hd hw hb hh
    rw [hH_s W ht hw, Bool.and_eq_true, Bool.or_eq_true] at hh
    obtain ⟨h1, h2⟩ := hh
    obtain ⟨-, a1, a2⟩ := st_del ⟨t, ht⟩ ⟨w, by omega⟩ h1
    simp only at a1 a2
    have hsw := hd w h1
    have b2 := (st_or ⟨s, hs⟩ ⟨w, by omega⟩).2
    simp only at b2
    rw [mM_s W hs]
    have g1 := mx_ge (p := fun w => !s.testBit w && tb (hBw d b) w) (v := fun w => 1 + mM d (s ||| 2 ^ w) (w + 1)) (hN d) w hw (by simp only [hsw, hb]; rfl)
    rcases h2 with h2 | h2
    · have h2 := of_decide_eq_true h2
      rw [h2] at a2
      have : bt 0 = 0 := by decide
      omega
    · obtain ⟨v, v1, v2⟩ := anyB_e _ h2
      rw [Bool.and_eq_true] at v2
      have := ih (t ^^^ 2 ^ w) a1 (s ||| 2 ^ w) (w + 1) v (by omega) b2 (fun k hk => by
        rw [tB_xor] at hk
        rw [tB_or]
        by_cases e : w = k
        · subst e; rw [h1, decide_eq_true rfl] at hk; cases hk
        · rw [decide_eq_false e] at hk ⊢
          rw [Bool.or_false]
          exact hd k (by cases hc : t.testBit k with
            | true => rfl
            | false => rw [hc] at hk; cases hk)) v1 v2.1 v2.2
      omega
theorem mM_at {d : HD} (W : HW d) : ∀ m s b, m = 1024 - s → s < 2 ^ hN d → mM d s b = 0 ∨ ∃ t w, t < 2 ^ hN d ∧ dj t s ∧ w < hN d ∧ tb (hBw d b) w = true ∧ hH d t w = true ∧ bt t = mM d s b := by
  have h10 := W.2.1
  have hp10 : 2 ^ hN d ≤ 2 ^ 10 := Nat.pow_le_pow_right (by decide) h10
  intro m
  induction m using Nat.strongRecOn with
  | ind m ih =>
    intro s b hm hs
    have hs10 : s < 1024 := by omega
    rcases mx_at (p := fun w => !s.testBit w && tb (hBw d b) w) (v := fun w => 1 + mM d (s ||| 2 ^ w) (w + 1)) (hN d) with h | ⟨w, w1, w2, w3⟩
    · exact Or.inl (by rw [mM_s W hs10]; exact h)
    · right
      rw [mM_s W hs10, ← w3]
      simp only [Bool.and_eq_true, Bool.not_eq_true'] at w2
      obtain ⟨w4, w5⟩ := w2
      have a1 := st_add ⟨s, hs10⟩ ⟨w, by omega⟩ w4
      simp only at a1
      have b1 := st_top ⟨hN d, by omega⟩ ⟨w, by omega⟩ w1 s hs
      simp only at b1
      have c1 : 2 ^ w < 2 ^ hN d := Nat.pow_lt_pow_right (by decide) w1
      rcases ih (1024 - (s ||| 2 ^ w)) (by omega) (s ||| 2 ^ w) (w + 1) rfl b1 with h0 | ⟨t, v, t1, t2, t3, t4, t5, t6⟩
      · refine ⟨2 ^ w, w, c1, fun k hk => ?_, w1, w5, ?_, ?_⟩
        · rw [Nat.testBit_two_pow] at hk
          rw [← of_decide_eq_true hk]; exact w4
        · rw [hH_s W (by omega) w1, Nat.testBit_two_pow, decide_eq_true rfl, Nat.xor_self]; rfl
        · have := (st_add ⟨0, by decide⟩ ⟨w, by omega⟩ (tB_0 w)).2
          simp only [Nat.zero_or] at this
          rw [this, h0]; decide
      · have tw : t.testBit w = false := by
          cases hc : t.testBit w with
          | false => rfl
          | true =>
            have := t2 w hc
            rw [tB_or, decide_eq_true rfl, Bool.or_true] at this
            cases this
        have d1 := st_top ⟨hN d, by omega⟩ ⟨w, by omega⟩ w1 t t1
        simp only at d1
        have a2 := (st_add ⟨t, by omega⟩ ⟨w, by omega⟩ tw).2
        simp only at a2
        refine ⟨t ||| 2 ^ w, w, d1, fun k hk => ?_, w1, w5, ?_, by rw [a2, t6]; omega⟩
        · rw [tB_or, Bool.or_eq_true] at hk
          rcases hk with hk | hk
          · have := t2 k hk
            rw [tB_or, Bool.or_eq_false_iff] at this
            exact this.1
          · rw [← of_decide_eq_true hk]; exact w4
        · rw [hH_s W (by omega) w1, tB_or, decide_eq_true rfl, Bool.or_true, tB_back tw, anyB_t _ v t3 (by rw [show tb (hBeh d w) v = true from t4, t5]; rfl), Bool.or_true]; rfl
/-- the longest row of all -/
theorem mM_0 {d : HD} (W : HW d) : mx (fun s => anyB (hH d s) (hN d)) bt (2 ^ hN d) = mM d 0 0 := by
  have h10 := W.2.1
  have hp10 : 2 ^ hN d ≤ 2 ^ 10 := Nat.pow_le_pow_right (by decide) h10
  apply Nat.le_antisymm
  · rcases mx_at (p := fun s => anyB (hH d s) (hN d)) (v := bt) (2 ^ hN d) with h | ⟨t, t1, t2, t3⟩
    · rw [h]; omega
    · rw [← t3]
      obtain ⟨w, w1, w2⟩ := anyB_e _ t2
      exact mM_ge W t 0 0 w (by omega) (by decide) (fun k _ => tB_0 k) w1 (by show tb (hAll d) w = true; rw [tb_all W (by omega)]; exact decide_eq_true w1) w2
  · rcases mM_at W _ 0 0 rfl (Nat.two_pow_pos _) with h | ⟨t, w, t1, -, t3, -, t5, t6⟩
    · rw [h]; omega
    · rw [← t6]
      exact mx_ge (p := fun s => anyB (hH d s) (hN d)) _ t t1 (anyB_t _ w t3 t5)
/-- which word may come next in a longest row: by sets, or by what can still come -/
theorem mM_next {d : HD} {u b w : Nat} (W : HW d) (hu : u < 2 ^ hN d) (h0 : mM d u b ≠ 0) (hw : w < hN d) (hb : tb (hBw d b) w = true) (huw : u.testBit w = false) : (∃ t, t < 2 ^ hN d ∧ dj t u ∧ bt t = mM d u b ∧ hH d t w = true) ↔ 1 + mM d (u ||| 2 ^ w) (w + 1) = mM d u b := by
  have h10 := W.2.1
  have hp10 : 2 ^ hN d ≤ 2 ^ 10 := Nat.pow_le_pow_right (by decide) h10
  have b1 := st_top ⟨hN d, by omega⟩ ⟨w, by omega⟩ hw u hu
  simp only at b1
  have c1 : 2 ^ w < 2 ^ hN d := Nat.pow_lt_pow_right (by decide) hw
  have up : 1 + mM d (u ||| 2 ^ w) (w + 1) ≤ mM d u b := by
    have := mx_ge (p := fun w => !u.testBit w && tb (hBw d b) w) (v := fun w => 1 + mM d (u ||| 2 ^ w) (w + 1)) (hN d) w hw (by simp only [huw, hb]; rfl)
    rw [← mM_s W (by omega)] at this
    exact this
  constructor
  · rintro ⟨t, t1, t2, t3, t4⟩
    rw [hH_s W (by omega) hw, Bool.and_eq_true, Bool.or_eq_true] at t4
    obtain ⟨h1, h2⟩ := t4
    obtain ⟨-, a1, a2⟩ := st_del ⟨t, by omega⟩ ⟨w, by omega⟩ h1
    simp only at a1 a2
    rcases h2 with h2 | h2
    · have h2 := of_decide_eq_true h2
      rw [h2] at a2
      have : bt 0 = 0 := by decide
      omega
    · obtain ⟨v, v1, v2⟩ := anyB_e _ h2
      rw [Bool.and_eq_true] at v2
      have := mM_ge W (t ^^^ 2 ^ w) (u ||| 2 ^ w) (w + 1) v (by omega) (by omega) (fun k hk => by
        rw [tB_xor] at hk
        rw [tB_or]
        by_cases e : w = k
        · subst e; rw [h1, decide_eq_true rfl] at hk; cases hk
        · rw [decide_eq_false e] at hk ⊢
          rw [Bool.or_false]
          exact t2 k (by cases hc : t.testBit k with
            | true => rfl
            | false => rw [hc] at hk; cases hk)) v1 v2.1 v2.2
      omega
  · intro e
    rcases mM_at W _ (u ||| 2 ^ w) (w + 1) rfl b1 with h | ⟨t, v, t1, t2, t3, t4, t5, t6⟩
    · refine ⟨2 ^ w, c1, fun k hk => ?_, ?_, ?_⟩
      · rw [Nat.testBit_two_pow] at hk
        rw [← of_decide_eq_true hk]; exact huw
      · have := (st_add ⟨0, by decide⟩ ⟨w, by omega⟩ (tB_0 w)).2
        simp only [Nat.zero_or] at this
        rw [this, ← e, h]; decide
      · rw [hH_s W (by omega) hw, Nat.testBit_two_pow, decide_eq_true rfl, Nat.xor_self]; rfl
    · have tw : t.testBit w = false := by
        cases hc : t.testBit w with
        | false => rfl
        | true =>
          have := t2 w hc
          rw [tB_or, decide_eq_true rfl, Bool.or_true] at this
          cases this
      have d1 := st_top ⟨hN d, by omega⟩ ⟨w, by omega⟩ hw t t1
      simp only at d1
      have a2 := (st_add ⟨t, by omega⟩ ⟨w, by omega⟩ tw).2
      simp only at a2
      refine ⟨t ||| 2 ^ w, d1, fun k hk => ?_, by rw [a2, t6, ← e]; omega, ?_⟩
      · rw [tB_or, Bool.or_eq_true] at hk
        rcases hk with hk | hk
        · have := t2 k hk
          rw [tB_or, Bool.or_eq_false_iff] at this
          exact this.1
        · rw [← of_decide_eq_true hk]; exact huw
      · rw [hH_s W (by omega) hw, tB_or, decide_eq_true rfl, Bool.or_true, tB_back tw, anyB_t _ v t3 (by rw [show tb (hBeh d w) v = true from t4, t5]; rfl), Bool.or_true]; rfl
theorem bc_all : ∀ s : Fin 1024, ∀ y1 : Int32, y1 = nI s.val - ((zus (nI s.val) 1) &&& 1431655765) → ∀ y3 : Int32, y3 = (y1 &&& 858993459) + ((zus y1 2) &&& 858993459) → ∀ y5 : Int32, y5 = (y3 + (zus y3 4)) &&& 252645135 → ∀ y7 : Int32, y7 = (y5 + (zus y5 8)) + (zus (y5 + (zus y5 8)) 16) → y7 &&& 63 = nI (bt s.val) := by
  have key : ∀ s : Fin 1024, (let y1 := nI s.val - ((zus (nI s.val) 1) &&& 1431655765); let y3 := (y1 &&& 858993459) + ((zus y1 2) &&& 858993459); let y5 := (y3 + (zus y3 4)) &&& 252645135; let y7 := (y5 + (zus y5 8)) + (zus (y5 + (zus y5 8)) 16); y7 &&& 63) = nI (bt s.val) := by decide +kernel
  intro s y1 h1 y3 h3 y5 h5 y7 h7
  have := key s
  simp only at this
  rw [← h1, ← h3, ← h5, ← h7] at this
  exact this
theorem c_bitCount {g : zG} {I : Nat → Nat → Int32} {P : Nat → Nat → Option Nat} {s : Nat} (hs : s < 1024) : Cl mJ6_bitCount_0f7a4 [.int (nI s)] (g, I, P) (some (.int (nI (bt s)))) (g, I, P) :=
  eJ6_bitCount_0f7a4 (wJ6_bitCount_0f7a4_0 (fun y1 h1 y3 h3 y5 h5 y7 h7 => ⟨by rw [bc_all ⟨s, hs⟩ y1 h1 y3 h3 y5 h5 y7 h7], rfl⟩))
