/-! ===== a tape cut into tokens ===== -/
abbrev Tp : Type := Nat × (Nat → Nat)
def rn (c : Nat → Bool) : Nat → Nat → Nat
  | 0, p => p
  | m + 1, p => if c p = true then rn c m (p + 1) else p
/-- the end of the run from p on for which c holds, n at most -/
def rE (c : Nat → Bool) (n p : Nat) : Nat := rn c (n - p) p
theorem rE_t {c : Nat → Bool} {n p : Nat} (hp : p < n) (h : c p = true) : rE c n p = rE c n (p + 1) := by
  unfold rE
  rw [show n - p = (n - (p + 1)) + 1 by omega]
  show (if c p = true then rn c (n - (p + 1)) (p + 1) else p) = _
  rw [if_pos h]
theorem rE_f {c : Nat → Bool} {n p : Nat} (h : c p = false) : rE c n p = p := by
  unfold rE
  cases n - p with
  | zero => rfl
  | succ m =>
    show (if c p = true then rn c m (p + 1) else p) = _
    rw [if_neg (by rw [h]; decide)]
theorem rE_n {c : Nat → Bool} {n p : Nat} (h : n ≤ p) : rE c n p = p := by
  unfold rE
  rw [show n - p = 0 by omega]; rfl
theorem rn_b {c : Nat → Bool} : ∀ m p, p ≤ rn c m p ∧ rn c m p ≤ p + m ∧ (∀ k, p ≤ k → k < rn c m p → c k = true) := by
  intro m
  induction m with
  | zero => intro p; exact ⟨Nat.le_refl _, Nat.le_refl _, fun k h1 h2 => absurd h2 (Nat.not_lt.mpr h1)⟩
  | succ m ih =>
    intro p
    show p ≤ (if c p = true then rn c m (p + 1) else p) ∧ (if c p = true then rn c m (p + 1) else p) ≤ p + (m + 1) ∧ ∀ k, p ≤ k → k < (if c p = true then rn c m (p + 1) else p) → c k = true
    by_cases h : c p = true
    · rw [if_pos h]
      obtain ⟨a1, a2, a3⟩ := ih (p + 1)
      refine ⟨by omega, by omega, fun k h1 h2 => ?_⟩
      by_cases e : k = p
      · subst e; exact h
      · exact a3 k (by omega) h2
    · rw [if_neg h]
      exact ⟨Nat.le_refl _, by omega, fun k h1 h2 => by omega⟩
theorem rE_b {c : Nat → Bool} {n p : Nat} (h : p ≤ n) : p ≤ rE c n p ∧ rE c n p ≤ n ∧ (∀ k, p ≤ k → k < rE c n p → c k = true) := by
  obtain ⟨a1, a2, a3⟩ := rn_b (c := c) (n - p) p
  exact ⟨a1, by unfold rE; omega, a3⟩
theorem rE_s {c : Nat → Bool} {n p : Nat} (hp : p < n) (h : c p = true) : p < rE c n p := by
  rw [rE_t hp h]
  have := (rE_b (c := c) (n := n) (p := p + 1) hp).1
  omega
def isB (b : Nat) : Bool := decide (b = 10 ∨ b = 32)
def isL (b : Nat) : Bool := decide (97 ≤ b ∧ b ≤ 122)
def isD (b : Nat) : Bool := decide (48 ≤ b ∧ b ≤ 57)
abbrev cB (T : Tp) (k : Nat) : Bool := isB (T.2 k)
abbrev cL (T : Tp) (k : Nat) : Bool := isL (T.2 k)
abbrev cD (T : Tp) (k : Nat) : Bool := isD (T.2 k)
def tK (T : Tp) (s : Nat) : Nat := if T.1 ≤ s then 0 else if cL T s = true then 1 else if cD T s = true then (if rE (cD T) T.1 s - s ≤ 2 then 2 else 4) else if T.2 s = 59 then 3 else 4
def tE (T : Tp) (s : Nat) : Nat := if T.1 ≤ s then s else if cL T s = true then rE (cL T) T.1 s else if cD T s = true then rE (cD T) T.1 s else s + 1
/-- the token from p on: where it begins, its kind, where it ends, its size -/
def sS (T : Tp) (p : Nat) : Nat := rE (cB T) T.1 p
def sK (T : Tp) (p : Nat) : Nat := tK T (sS T p)
def sE (T : Tp) (p : Nat) : Nat := tE T (sS T p)
def sZ (T : Tp) (p : Nat) : Nat := sE T p - sS T p
def nv (f : Nat → Nat) (s : Nat) : Nat → Nat
  | 0 => 0
  | m + 1 => nv f s m * 10 + (f (s + m) - 48)
def vv (f : Nat → Nat) (s : Nat) : Nat → Nat
  | 0 => 0
  | m + 1 => 32 * vv f s m + (f (s + m) - 96)
def sN (T : Tp) (p : Nat) : Nat := nv T.2 (sS T p) (sZ T p)
def kB : List (List Nat) := [[119, 111, 114, 100], [102, 111, 108, 108, 111, 119, 115], [97, 115, 107, 115], [115, 116, 111, 110, 101, 115], [102, 114, 111, 115, 116], [102, 111, 114, 103, 101], [109, 111, 115, 115], [99, 104, 105, 112], [115, 112, 108, 105, 116], [108, 105, 110, 101], [100, 101, 112, 116, 104]]
def kN (j i : Nat) : Nat := (kB.getD j []).getD i 0
def kV (j : Nat) : Nat := vv (kN j) 0 (zLen.getD j 0)
def wd (v : Nat) : Nat := if v = kV 0 then 1 else if v = kV 1 then 2 else if v = kV 2 then 3 else if v = kV 3 then 4 else if v = kV 4 then 5 else if v = kV 5 then 6 else if v = kV 6 then 7 else if v = kV 7 then 8 else if v = kV 8 then 9 else if v = kV 9 then 10 else if v = kV 10 then 11 else 99
/-- which word it is -/
def sW (T : Tp) (p : Nat) : Nat := if sZ T p ≤ 8 then wd (vv T.2 (sS T p) (sZ T p)) else 99
theorem wd_kV : ∀ j : Fin 11, wd (kV j.val) = j.val + 1 := by decide +kernel
theorem wd_iff {j v : Nat} (hj : j < 11) : wd v = j + 1 ↔ v = kV j := by
  constructor
  · intro h
    unfold wd at h
    by_cases e0 : v = kV 0
    · rw [if_pos e0] at h; obtain rfl : j = 0 := by omega
      exact e0
    rw [if_neg e0] at h
    by_cases e1 : v = kV 1
    · rw [if_pos e1] at h; obtain rfl : j = 1 := by omega
      exact e1
    rw [if_neg e1] at h
    by_cases e2 : v = kV 2
    · rw [if_pos e2] at h; obtain rfl : j = 2 := by omega
      exact e2
    rw [if_neg e2] at h
    by_cases e3 : v = kV 3
    · rw [if_pos e3] at h; obtain rfl : j = 3 := by omega
      exact e3
    rw [if_neg e3] at h
    by_cases e4 : v = kV 4
    · rw [if_pos e4] at h; obtain rfl : j = 4 := by omega
      exact e4
    rw [if_neg e4] at h
    by_cases e5 : v = kV 5
    · rw [if_pos e5] at h; obtain rfl : j = 5 := by omega
      exact e5
    rw [if_neg e5] at h
    by_cases e6 : v = kV 6
    · rw [if_pos e6] at h; obtain rfl : j = 6 := by omega
      exact e6
    rw [if_neg e6] at h
    by_cases e7 : v = kV 7
    · rw [if_pos e7] at h; obtain rfl : j = 7 := by omega
      exact e7
    rw [if_neg e7] at h
    by_cases e8 : v = kV 8
    · rw [if_pos e8] at h; obtain rfl : j = 8 := by omega
      exact e8
    rw [if_neg e8] at h
    by_cases e9 : v = kV 9
    · rw [if_pos e9] at h; obtain rfl : j = 9 := by omega
      exact e9
    rw [if_neg e9] at h
    by_cases e10 : v = kV 10
    · rw [if_pos e10] at h; obtain rfl : j = 10 := by omega
      exact e10
    rw [if_neg e10] at h
    omega
  · intro h
    rw [h]
    exact wd_kV ⟨j, hj⟩
theorem wd_le (v : Nat) : 1 ≤ wd v ∧ wd v ≤ 99 ∧ (wd v ≤ 11 ∨ wd v = 99) := by
  unfold wd
  repeat (split; · omega)
  omega
theorem sW_le (T : Tp) (p : Nat) : 1 ≤ sW T p ∧ sW T p ≤ 99 ∧ (sW T p ≤ 11 ∨ sW T p = 99) := by
  unfold sW
  split
  · exact wd_le _
  · omega
theorem vv_pos {f : Nat → Nat} {s : Nat} : ∀ m, (∀ i, i < m + 1 → 97 ≤ f (s + i)) → 1 ≤ vv f s (m + 1) := by
  intro m h
  have := h m (by omega)
  show 1 ≤ 32 * vv f s m + (f (s + m) - 96)
  omega
theorem vv_inj {f h : Nat → Nat} {s u : Nat} : ∀ m k, (∀ i, i < m → 97 ≤ f (s + i) ∧ f (s + i) ≤ 122) → (∀ i, i < k → 97 ≤ h (u + i) ∧ h (u + i) ≤ 122) → vv f s m = vv h u k → m = k ∧ ∀ i, i < m → f (s + i) = h (u + i) := by
  intro m
  induction m with
  | zero =>
    intro k a1 a2 e
    cases k with
    | zero => exact ⟨rfl, fun i hi => absurd hi (Nat.not_lt_zero i)⟩
    | succ k =>
      have := vv_pos (f := h) (s := u) k (fun i hi => (a2 i hi).1)
      rw [← e] at this
      exact absurd this (Nat.not_succ_le_zero 0)
  | succ m ih =>
    intro k a1 a2 e
    cases k with
    | zero =>
      have := vv_pos (f := f) (s := s) m (fun i hi => (a1 i hi).1)
      rw [e] at this
      exact absurd this (Nat.not_succ_le_zero 0)
    | succ k =>
      have b1 := a1 m (by omega)
      have b2 := a2 k (by omega)
      have e : 32 * vv f s m + (f (s + m) - 96) = 32 * vv h u k + (h (u + k) - 96) := e
      obtain ⟨c1, c2⟩ := ih k (fun i hi => a1 i (by omega)) (fun i hi => a2 i (by omega)) (by omega)
      subst c1
      refine ⟨rfl, fun i hi => ?_⟩
      by_cases e2 : i = m
      · subst e2; omega
      · exact c2 i (by omega)
theorem vv_congr {f h : Nat → Nat} {s u : Nat} : ∀ m, (∀ i, i < m → f (s + i) = h (u + i)) → vv f s m = vv h u m := by
  intro m
  induction m with
  | zero => intro _; rfl
  | succ m ih =>
    intro a
    show 32 * vv f s m + (f (s + m) - 96) = 32 * vv h u m + (h (u + m) - 96)
    rw [ih (fun i hi => a i (by omega)), a m (by omega)]
theorem vv_le {f : Nat → Nat} {s : Nat} : ∀ m, (∀ i, i < m → f (s + i) ≤ 122) → vv f s m < 32 ^ m := by
  intro m
  induction m with
  | zero => intro _; exact Nat.lt_succ_self 0
  | succ m ih =>
    intro a
    have h1 := ih (fun i hi => a i (by omega))
    have h2 := a m (by omega)
    show 32 * vv f s m + (f (s + m) - 96) < 32 ^ (m + 1)
    rw [Nat.pow_succ]
    omega
theorem kN_ok : ∀ j : Fin 11, ∀ i : Fin 7, i.val < zLen.getD j.val 0 → 97 ≤ kN j.val i.val ∧ kN j.val i.val ≤ 122 ∧ (zByt.getD j.val []).getD i.val 0 = nI (kN j.val i.val) := by decide +kernel
theorem kN_at {j i : Nat} (hj : j < 11) (hi : i < zLen.getD j 0) : 97 ≤ kN j i ∧ kN j i ≤ 122 ∧ (zByt.getD j []).getD i 0 = nI (kN j i) := kN_ok ⟨j, hj⟩ ⟨i, by have := s_lenlt j hj; omega⟩ hi
section SCAN
variable {T : Tp} {p : Nat}
theorem sS_b (hp : p ≤ T.1) : p ≤ sS T p ∧ sS T p ≤ T.1 := ⟨(rE_b hp).1, (rE_b hp).2.1⟩
theorem tE_b {s : Nat} (hs : s ≤ T.1) : s ≤ tE T s ∧ tE T s ≤ T.1 ∧ (s < T.1 → s < tE T s) := by
  unfold tE
  by_cases h0 : T.1 ≤ s
  · rw [if_pos h0]; omega
  · rw [if_neg h0]
    by_cases h1 : cL T s = true
    · rw [if_pos h1]
      have := rE_s (c := cL T) (n := T.1) (by omega) h1
      have := rE_b (c := cL T) hs
      omega
    · rw [if_neg h1]
      by_cases h2 : cD T s = true
      · rw [if_pos h2]
        have := rE_s (c := cD T) (n := T.1) (by omega) h2
        have := rE_b (c := cD T) hs
        omega
      · rw [if_neg h2]; omega
theorem sE_b (hp : p ≤ T.1) : sS T p ≤ sE T p ∧ sE T p ≤ T.1 ∧ p ≤ sE T p ∧ (sS T p < T.1 → sS T p < sE T p) := by
  obtain ⟨a1, a2⟩ := sS_b hp
  obtain ⟨b1, b2, b3⟩ := tE_b a2
  unfold sE
  exact ⟨b1, b2, by omega, b3⟩
theorem sK_0 (hp : p ≤ T.1) : sK T p = 0 ↔ sS T p = T.1 := by
  obtain ⟨a1, a2⟩ := sS_b hp
  unfold sK tK
  by_cases h0 : T.1 ≤ sS T p
  · rw [if_pos h0]; omega
  · rw [if_neg h0]
    constructor
    · intro h
      exfalso
      repeat' split at h
      all_goals omega
    · intro h; omega
theorem sK_g (hp : p ≤ T.1) (h : sK T p ≠ 0) : p < sE T p ∧ sS T p < T.1 ∧ 1 ≤ sZ T p := by
  have h1 := sS_b hp
  have h2 := sE_b hp
  have h3 : sS T p ≠ T.1 := fun e => h ((sK_0 hp).mpr e)
  unfold sZ
  omega
theorem sK_le : sK T p ≤ 4 := by
  unfold sK tK
  repeat' split
  all_goals omega
/-- a row of letters -/
theorem sK_1 (hp : p ≤ T.1) (h : sK T p = 1) : ∀ i, i < sZ T p → 97 ≤ T.2 (sS T p + i) ∧ T.2 (sS T p + i) ≤ 122 := by
  obtain ⟨a1, a2⟩ := sS_b hp
  have h3 := (sK_g hp (by omega)).2.1
  unfold sK tK at h
  rw [if_neg (by omega)] at h
  by_cases h1 : cL T (sS T p) = true
  · intro i hi
    have e : sE T p = rE (cL T) T.1 (sS T p) := by unfold sE tE; rw [if_neg (by omega), if_pos h1]
    unfold sZ at hi
    rw [e] at hi
    have := (rE_b (c := cL T) a2).2.2 (sS T p + i) (by omega) (by omega)
    unfold cL isL at this
    rw [decide_eq_true_eq] at this
    exact this
  · rw [if_neg h1] at h
    exfalso
    repeat' split at h
    all_goals omega
theorem sK_2 (hp : p ≤ T.1) (h : sK T p = 2) : sZ T p ≤ 2 ∧ ∀ i, i < sZ T p → 48 ≤ T.2 (sS T p + i) ∧ T.2 (sS T p + i) ≤ 57 := by
  obtain ⟨a1, a2⟩ := sS_b hp
  have h3 := (sK_g hp (by omega)).2.1
  unfold sK tK at h
  rw [if_neg (by omega)] at h
  by_cases h1 : cL T (sS T p) = true
  · rw [if_pos h1] at h; omega
  · rw [if_neg h1] at h
    by_cases h2 : cD T (sS T p) = true
    · rw [if_pos h2] at h
      have e : sE T p = rE (cD T) T.1 (sS T p) := by unfold sE tE; rw [if_neg (by omega), if_neg h1, if_pos h2]
      refine ⟨?_, fun i hi => ?_⟩
      · unfold sZ; rw [e]
        split at h
        · assumption
        · omega
      · unfold sZ at hi
        rw [e] at hi
        have := (rE_b (c := cD T) a2).2.2 (sS T p + i) (by omega) (by omega)
        unfold cD isD at this
        rw [decide_eq_true_eq] at this
        exact this
    · rw [if_neg h2] at h
      exfalso
      split at h <;> omega
theorem sN_le (hp : p ≤ T.1) (h : sK T p = 2) : sN T p ≤ 99 := by
  obtain ⟨h1, h2⟩ := sK_2 hp h
  unfold sN
  rcases (show sZ T p = 0 ∨ sZ T p = 1 ∨ sZ T p = 2 by omega) with e | e | e
  · rw [e]; exact Nat.zero_le _
  · have := h2 0 (by omega)
    rw [e]
    show 0 * 10 + (T.2 (sS T p + 0) - 48) ≤ 99
    omega
  · have := h2 0 (by omega)
    have := h2 1 (by omega)
    rw [e]
    show (0 * 10 + (T.2 (sS T p + 0) - 48)) * 10 + (T.2 (sS T p + 1) - 48) ≤ 99
    omega
/-- a word of the eleven -/
theorem sW_iff {j : Nat} (hp : p ≤ T.1) (h : sK T p = 1) (hj : j < 11) : sW T p = j + 1 ↔ sZ T p = zLen.getD j 0 ∧ ∀ i, i < sZ T p → T.2 (sS T p + i) = kN j i := by
  have hl := s_lenlt j hj
  have hL := sK_1 hp h
  have hk : ∀ i, i < zLen.getD j 0 → 97 ≤ kN j (0 + i) ∧ kN j (0 + i) ≤ 122 := fun i hi => by rw [Nat.zero_add]; exact ⟨(kN_at hj hi).1, (kN_at hj hi).2.1⟩
  unfold sW
  by_cases h8 : sZ T p ≤ 8
  · rw [if_pos h8, wd_iff hj]
    constructor
    · intro e
      obtain ⟨c1, c2⟩ := vv_inj _ _ hL hk e
      exact ⟨c1, fun i hi => by rw [c2 i hi, Nat.zero_add]⟩
    · rintro ⟨e1, e2⟩
      unfold kV
      rw [← e1]
      exact vv_congr _ (fun i hi => by rw [e2 i hi, Nat.zero_add])
  · rw [if_neg h8]
    constructor
    · intro e; omega
    · rintro ⟨e1, -⟩; omega
end SCAN
