/-! ===== fractions in least terms, on both sides; waits ===== -/
theorem lN0 : lN 0 = 0 := rfl
theorem lc0 (x : Int64) : lg_cmp x 0 = 0 ↔ x = 0 := by
  unfold lg_cmp
  constructor
  · intro h
    by_cases h1 : x > 0
    · rw [if_pos h1] at h; exact absurd h (by decide)
    · rw [if_neg h1] at h
      by_cases h2 : x = 0
      · exact h2
      · rw [if_neg h2] at h; exact absurd h (by decide)
  · rintro rfl
    decide
theorem lN_ne {a : Nat} (h : 0 < a) (ha : a < 2 ^ 63) : ¬ lN a = 0 := by
  rw [← lN0, pk_lEQ ha (by decide)]
  omega
theorem lN_cn {a : Nat} (ha : a < 2 ^ 63) : ¬ lg_cmp (lN a) 0 < 0 := by
  unfold lg_cmp
  by_cases h1 : lN a > 0
  · rw [if_pos h1]; decide
  · rw [if_neg h1]
    by_cases h2 : lN a = 0
    · rw [if_pos h2]; decide
    · exfalso
      apply h2
      have h3 : ¬ (lN 0 < lN a) := h1
      rw [pk_lLT (by decide) ha] at h3
      rw [show a = 0 by omega]
      rfl
theorem lN_cp {a : Nat} (h : 0 < a) (ha : a < 2 ^ 63) : 0 < lg_cmp (lN a) 0 := by
  unfold lg_cmp
  have h1 : lN a > 0 := (pk_lLT (a := 0) (by decide) ha).mpr h
  rw [if_pos h1]; decide
theorem gcd_step {a b : Nat} : Nat.gcd a b = Nat.gcd b (a % b) := by
  rw [Nat.gcd_comm a b, Nat.gcd_rec b a, Nat.gcd_comm]
/-- one half of a over b in least terms -/
def zle (a b : Nat) (u : Int32) : Int64 := if u = 0 then lN (a / Nat.gcd a b) else lN (b / Nat.gcd a b)
section CL
variable {g : zG} {I : Nat → Nat → Int32} {P : Nat → Nat → Option Nat}
theorem r_common {a b : Nat} (ha : a < 2 ^ 63) (hb : b < 2 ^ 63) : Cl mX12_common [.long (lN a), .long (lN b)] (g, I, P) (some (.long (lN (Nat.gcd a b)))) (g, I, P) := by
  refine eX12_common (wX12_common_0 ?_)
  induction b using Nat.strongRecOn generalizing a with
  | ind b ih =>
    refine wX12_common_6 ⟨fun q => ?_, fun q => ?_⟩
    · rw [lc0, ← lN0, pk_lEQ hb (by decide)] at q
      subst q
      exact ⟨by rw [Nat.gcd_zero_right], rfl⟩
    · rw [lc0] at q
      have hb0 : 0 < b := by
        rcases Nat.eq_zero_or_pos b with h | h
        · subst h; exact absurd lN0 q
        · exact h
      refine ⟨q, ?_⟩
      rw [pk_lRem ha hb0 hb, gcd_step]
      exact ih (a % b) (Nat.mod_lt _ hb0) hb (Nat.lt_trans (Nat.mod_lt _ hb0) hb)
theorem r_least {a b : Nat} {u : Int32} (ha : a < 2 ^ 63) (hb0 : 0 < b) (hb : b < 2 ^ 63) : Cl mX12_least [.long (lN a), .long (lN b), .int u] (g, I, P) (some (.long (zle a b u))) (g, I, P) := by
  have hg : 0 < Nat.gcd a b := Nat.gcd_pos_of_pos_right _ hb0
  have hgl : Nat.gcd a b < 2 ^ 63 := Nat.lt_of_le_of_lt (Nat.gcd_le_right _ hb0) hb
  refine eX12_least (wX12_least_0 ⟨fun q => ⟨_, r_common ha hb, lN_ne hg hgl, ?_, rfl⟩, fun q => ⟨_, r_common ha hb, lN_ne hg hgl, ?_, rfl⟩⟩)
  · rw [pk_lDiv ha hg hgl]; simp [zle, q]
  · rw [pk_lDiv hb hg hgl]; simp [zle, q]
theorem c_commonL (m : Nat) : ∀ (a b i : Nat), a < 2 ^ 63 → b < 2 ^ 63 → b < 2 ^ m → i + 2 * m < 200 → Zt none mX11_commonDivisor 0 0 9 [(4, .long (lN a)), (6, .long (lN b)), (8, .int (nI i))] [] (g, I, P) (some (.long (lN (Nat.gcd a b)))) (g, I, P) := by
  induction m with
  | zero =>
    intro a b i ha hb hm hi
    have : b = 0 := by simp at hm; exact hm
    subst this
    exact wX11_commonDivisor_9 ⟨fun _ => ⟨by rw [Nat.gcd_zero_right], rfl⟩, fun _ => ⟨fun _ => ⟨by rw [Nat.gcd_zero_right], rfl⟩, fun q => absurd ((lc0 _).mpr lN0) q⟩⟩
  | succ m ih =>
    intro a b i ha hb hm hi
    refine wX11_commonDivisor_9 ⟨fun q => absurd q (nI_ge (b := 200) (by omega) (by decide)), fun _ => ⟨fun q => ?_, fun q => ?_⟩⟩
    · rw [lc0, ← lN0, pk_lEQ hb (by decide)] at q
      subst q
      exact ⟨by rw [Nat.gcd_zero_right], rfl⟩
    · rw [lc0] at q
      have hb0 : 0 < b := by
        rcases Nat.eq_zero_or_pos b with h | h
        · subst h; exact absurd lN0 q
        · exact h
      refine ⟨q, ?_⟩
      rw [pk_lRem ha hb0 hb, gcd_step, nI_1]
      have hr : a % b < b := Nat.mod_lt _ hb0
      generalize a % b = s at hr
      refine wX11_commonDivisor_9 ⟨fun q => absurd q (nI_ge (b := 200) (by omega) (by decide)), fun _ => ⟨fun q => ?_, fun q => ?_⟩⟩
      · rw [lc0, ← lN0, pk_lEQ (by omega) (by decide)] at q
        subst q
        exact ⟨by rw [Nat.gcd_zero_right], rfl⟩
      · rw [lc0] at q
        have hs0 : 0 < s := by
          rcases Nat.eq_zero_or_pos s with h | h
          · subst h; exact absurd lN0 q
          · exact h
        refine ⟨q, ?_⟩
        rw [pk_lRem hb hs0 (by omega), gcd_step, nI_1]
        have hlt : b % s < s := Nat.mod_lt _ hs0
        have hdiv : 1 ≤ b / s := (Nat.one_le_div_iff hs0).mpr (by omega)
        have hdm : s * (b / s) + b % s = b := Nat.div_add_mod b s
        have hge : s ≤ s * (b / s) := Nat.le_mul_of_pos_right s hdiv
        refine ih s (b % s) (i + 1 + 1) (by omega) (by omega) ?_ (by omega)
        rw [Nat.pow_succ] at hm
        omega
theorem c_common {a b : Nat} (ha : a < 2 ^ 63) (hb : b < 2 ^ 63) : Cl mX11_commonDivisor [.long (lN a), .long (lN b)] (g, I, P) (some (.long (lN (Nat.gcd a b)))) (g, I, P) := by
  rw [Nat.gcd_comm]
  exact eX11_commonDivisor (wX11_commonDivisor_0 (c_commonL 63 b a 0 hb ha ha (by decide)))
theorem c_least {a b : Nat} {u : Int32} (ha : a < 2 ^ 63) (hb0 : 0 < b) (hb : b < 2 ^ 63) : Cl mX11_least [.long (lN a), .long (lN b), .int u] (g, I, P) (some (.long (zle a b u))) (g, I, P) := by
  have hg : 0 < Nat.gcd a b := Nat.gcd_pos_of_pos_right _ hb0
  have hgl : Nat.gcd a b < 2 ^ 63 := Nat.lt_of_le_of_lt (Nat.gcd_le_right _ hb0) hb
  have hne := lN_ne hg hgl
  refine eX11_least (wX11_least_0 ⟨fun q => absurd q (lN_cn ha), fun _ => ⟨fun _ => ⟨_, c_common ha hb, fun _ => ⟨fun q => ⟨hne, ?_, rfl⟩, fun q => ⟨hne, ?_, rfl⟩⟩, fun q => absurd ((lc0 _).mp q) hne⟩, fun q => absurd (lN_cp hb0 hb) q⟩⟩)
  · rw [pk_lDiv ha hg hgl]; simp [zle, q]
  · rw [pk_lDiv hb hg hgl]; simp [zle, q]
/-- nothing below: NONE -/
theorem c_least0 {a : Nat} {u : Int32} (ha : a < 2 ^ 63) : Cl mX11_least [.long (lN a), .long 0, .int u] (g, I, P) (some (.long (-1))) (g, I, P) :=
  eX11_least (wX11_least_0 ⟨fun q => absurd q (lN_cn ha), fun _ => ⟨fun q => absurd q (by decide), fun _ => ⟨rfl, rfl⟩⟩⟩)
theorem r_isIn {x lo hi : Int32} : Cl mX12_isIn [.int x, .int lo, .int hi] (g, I, P) (some (.int (zb (decide (¬ x < lo ∧ ¬ hi < x))))) (g, I, P) := by
  refine eX12_isIn (wX12_isIn_0 ⟨fun q => ⟨?_, rfl⟩, fun q => ⟨fun q2 => ⟨?_, rfl⟩, fun q2 => ⟨?_, rfl⟩⟩⟩)
  · simp [q, zb]
  · simp [q2, zb]
  · simp [q, q2, zb]
/-- an int between two others is a Nat there -/
theorem inN {x : Int32} {lo hi : Nat} (hlo : lo ≤ hi) (hhi : hi < 2 ^ 31) (h1 : ¬ x < nI lo) (h2 : ¬ nI hi < x) : ∃ k, lo ≤ k ∧ k ≤ hi ∧ x = nI k := by
  have h0 : ¬ x < 0 := fun h => h1 (Int32.lt_of_lt_of_le h (nI_pos' (by omega)))
  obtain ⟨j, hj, rfl⟩ := nI_of h0
  rw [nI_ltI hj (by omega)] at h1
  rw [nI_ltI hhi hj] at h2
  exact ⟨j, by omega, by omega, rfl⟩
/-- waits: 10 n over p -/
def F_waits (x1 x2 x3 : Int32) : Int64 := if (¬ x1 < 1 ∧ ¬ 12 < x1) ∧ (¬ x2 < 1 ∧ ¬ 10 < x2) then zle (10 * x1.toNatClampNeg) x2.toNatClampNeg x3 else -1
theorem c_waits {a : Nat} {x1 x2 x3 : Int32} : Cl mX11_waits [.ref a, .int x1, .int x2, .int x3] (g, I, P) (some (.long (F_waits x1 x2 x3))) (g, I, P) := by
  unfold F_waits
  refine eX11_waits (wX11_waits_0 ⟨fun q => ⟨by simp [q], rfl⟩, fun q1 => ⟨fun q => ⟨by simp [q], rfl⟩, fun q2 => ⟨fun q => ⟨by simp [q], rfl⟩, fun q3 => ⟨fun q4 => ?_, fun q => ⟨by rw [if_neg (fun h => h.2.2 (Int32.not_le.mp q))], rfl⟩⟩⟩⟩⟩)
  have q5 : ¬ (10 : Int32) < x2 := Int32.not_lt.mpr q4
  rw [if_pos ⟨⟨q1, q2⟩, q3, q5⟩]
  obtain ⟨n, hn1, hn2, rfl⟩ := inN (lo := 1) (hi := 12) (by decide) (by decide) q1 q2
  obtain ⟨p, hp1, hp2, rfl⟩ := inN (lo := 1) (hi := 10) (by decide) (by decide) q3 q5
  refine ⟨_, ?_, rfl, rfl⟩
  rw [nI_l (by omega), nI_l (by omega), nI_clamp (by omega), nI_clamp (by omega), show (10 : Int64) = lN 10 from rfl, lN_mul, Nat.mul_comm n 10]
  exact c_least (by omega) (by omega) (by omega)
theorem r_waits {a : Nat} {x1 x2 x3 : Int32} : Cl mX12_waits [.ref a, .int x1, .int x2, .int x3] (g, I, P) (some (.long (F_waits x1 x2 x3))) (g, I, P) := by
  unfold F_waits
  refine eX12_waits (wX12_waits_0 ⟨_, r_isIn, fun q => ?_, fun q => ⟨_, r_isIn, fun q2 => ?_, fun q2 => ?_⟩⟩)
  · rw [zb_eq, decide_eq_false_iff_not] at q
    exact ⟨by rw [if_neg (fun h => q h.1)], rfl⟩
  · rw [zb_eq, decide_eq_false_iff_not] at q2
    exact ⟨by rw [if_neg (fun h => q2 h.2)], rfl⟩
  · rw [← ne_eq, zb_ne, decide_eq_true_eq] at q q2
    rw [if_pos ⟨q, q2⟩]
    obtain ⟨n, hn1, hn2, rfl⟩ := inN (lo := 1) (hi := 12) (by decide) (by decide) q.1 q.2
    obtain ⟨p, hp1, hp2, rfl⟩ := inN (lo := 1) (hi := 10) (by decide) (by decide) q2.1 q2.2
    refine ⟨_, ?_, rfl, rfl⟩
    rw [nI_l (by omega), nI_l (by omega), nI_clamp (by omega), nI_clamp (by omega), show (10 : Int64) = lN 10 from rfl, lN_mul]
    exact r_least (by omega) (by omega) (by omega)
end CL
