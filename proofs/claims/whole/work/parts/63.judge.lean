/-! ===== Rules: what is judged by them ===== -/
theorem fit_0 (q : GD) (p : Nat) : fitB q 0 p = false := by unfold fitB; rw [decide_eq_false (by omega)]; rfl
theorem bs_N {f : Nat → Bool} : ∀ n, n ≤ 10 → ∃ m, m < 1024 ∧ bs f n = nI m := by
  intro n
  induction n with
  | zero => intro _; exact ⟨0, by decide, rfl⟩
  | succ n ih =>
    intro hn
    obtain ⟨m, hm, e⟩ := ih (by omega)
    cases hf : f n with
    | false => exact ⟨m, hm, by rw [bs_f hf, e]⟩
    | true =>
      have := st_or ⟨m, hm⟩ ⟨n, by omega⟩
      exact ⟨m ||| 2 ^ n, this.2, by rw [bs_t hf, e]; exact this.1⟩
theorem bs_bt {f : Nat → Bool} {m : Nat} (hm : m < 1024) (e : bs f 10 = nI m) : bt m = nsum (fun s => if f s = true then 1 else 0) 10 := by
  unfold bt
  have h : nsum (fun i => if m.testBit i = true then 1 else 0) 12 = nsum (fun i => if m.testBit i = true then 1 else 0) 10 := nsum_ext (n := 10) 2 (fun k h1 h2 => by
    have : m.testBit k = false := by rw [← tb_N (m := m) (by omega) (by omega), ← e, tb_bs (by decide) (by omega), decide_eq_false (by omega)]; rfl
    show (if m.testBit k = true then 1 else 0) = 0
    rw [this]; rfl)
  rw [h]
  refine nsum_congr 10 (fun k hk => ?_)
  show (if m.testBit k = true then 1 else 0) = (if f k = true then 1 else 0)
  rw [← tb_N (m := m) (by omega) (by omega), ← e, tb_bs (by decide) (by omega), decide_eq_true hk, Bool.true_and]
theorem nsum_swap {f : Nat → Nat → Nat} (m : Nat) : ∀ n, nsum (fun p => nsum (fun s => f s p) m) n = nsum (fun s => nsum (fun p => f s p) n) m := by
  intro n
  induction n with
  | zero =>
    have := nsum_ext (f := fun s => nsum (fun p => f s p) 0) (n := 0) m (fun k _ _ => rfl)
    rw [Nat.zero_add] at this
    rw [this]; rfl
  | succ n ih =>
    show nsum (fun p => nsum (fun s => f s p) m) n + nsum (fun s => f s n) m = nsum (fun s => nsum (fun p => f s p) n + f s n) m
    rw [ih, nsum_add]
/-- one, if a rule fits -/
def f1 (q : GD) (s p : Nat) : Nat := if fitB q s p = true then 1 else 0
def hm (q : GD) (n : Nat) : Nat := nsum (fun p => nsum (fun s => f1 q s p) 10) n
/-! rules as numbers -/
def rl (s p : Nat) : Nat := 1000 * s + 100 * gp p + 10 * wr p + sn p
def isR (r : Nat) : Bool := decide (1 ≤ r / 100 % 10 ∧ 1 ≤ r / 10 % 10)
def pOf (r : Nat) : Nat := 90 * (r / 100 % 10 - 1) + 10 * (r / 10 % 10 - 1) + r % 10
def fR (q : GD) (r : Nat) : Bool := isR r && fitB q (r / 1000) (pOf r)
def cR (q : GD) (n : Nat) : Nat := nsum (fun r => if fR q r = true then 1 else 0) n
def fnd (q : GD) (k : Int32) : Nat → Nat → Int32
  | 0, _ => -2
  | m + 1, r => if fR q r = true ∧ nI (cR q r) = k then nI r else fnd q k m (r + 1)
theorem rl_dec : ∀ p : Fin 810, rl 0 p.val < 1000 ∧ pOf (rl 0 p.val) = p.val ∧ isR (rl 0 p.val) = true ∧ 110 ≤ rl 0 p.val := by decide +kernel
theorem rl_s (s p : Nat) : rl s p = 1000 * s + rl 0 p := by unfold rl; omega
theorem r_add (s r : Nat) : pOf (1000 * s + r) = pOf r ∧ isR (1000 * s + r) = isR r := by
  have h1 : (1000 * s + r) / 100 % 10 = r / 100 % 10 := by omega
  have h2 : (1000 * s + r) / 10 % 10 = r / 10 % 10 := by omega
  have h3 : (1000 * s + r) % 10 = r % 10 := by omega
  unfold pOf isR
  rw [h1, h2, h3]
  exact ⟨rfl, rfl⟩
theorem rl_f {q : GD} {s p : Nat} (hp : p < 810) : fR q (rl s p) = fitB q s p := by
  obtain ⟨h1, h2, h3, -⟩ := rl_dec ⟨p, hp⟩
  have h1 : rl 0 p < 1000 := h1
  have e1 := r_add s (rl 0 p)
  unfold fR
  rw [rl_s, e1.1, e1.2, show isR (rl 0 p) = true from h3, show pOf (rl 0 p) = p from h2, show (1000 * s + rl 0 p) / 1000 = s by omega]; rfl
theorem r_back {r : Nat} (h : isR r = true) : pOf r < 810 ∧ gp (pOf r) = r / 100 % 10 ∧ wr (pOf r) = r / 10 % 10 ∧ sn (pOf r) = r % 10 ∧ rl (r / 1000) (pOf r) = r := by
  unfold isR at h
  rw [decide_eq_true_eq] at h
  have h1 : r / 100 % 10 < 10 := Nat.mod_lt _ (by decide)
  have h2 : r / 10 % 10 < 10 := Nat.mod_lt _ (by decide)
  have h3 : r % 10 < 10 := Nat.mod_lt _ (by decide)
  have e : r = 1000 * (r / 1000) + 100 * (r / 100 % 10) + 10 * (r / 10 % 10) + r % 10 := by omega
  have a1 : gp (pOf r) = r / 100 % 10 := by unfold gp pOf; omega
  have a2 : wr (pOf r) = r / 10 % 10 := by unfold wr pOf; omega
  have a3 : sn (pOf r) = r % 10 := by unfold sn pOf; omega
  refine ⟨by unfold pOf; omega, a1, a2, a3, ?_⟩
  unfold rl
  rw [a1, a2, a3]
  omega
theorem fR_1 {q : GD} {r : Nat} (h : fR q r = true) : isR r = true ∧ fitB q (r / 1000) (pOf r) = true := by
  unfold fR at h
  rw [Bool.and_eq_true] at h
  exact h
theorem rl_gap : ∀ p : Fin 810, rl 0 (p.val + 1) = rl 0 p.val + 1 ∨ rl 0 p.val % 100 = 99 ∧ rl 0 (p.val + 1) = rl 0 p.val + 11 := by decide +kernel
theorem isR_f {r : Nat} (h : r / 100 % 10 = 0 ∨ r / 10 % 10 = 0) : isR r = false := by unfold isR; exact decide_eq_false (by omega)
theorem fR_f {q : GD} {r : Nat} (h : r / 100 % 10 = 0 ∨ r / 10 % 10 = 0) : fR q r = false := by unfold fR; rw [isR_f h]; rfl
theorem fR_gap {q : GD} {s p : Nat} (hp : p < 810) : rl s p + 1 ≤ rl s (p + 1) ∧ ∀ r, rl s p + 1 ≤ r → r < rl s (p + 1) → fR q r = false := by
  have h := rl_gap ⟨p, hp⟩
  have h : rl 0 (p + 1) = rl 0 p + 1 ∨ rl 0 p % 100 = 99 ∧ rl 0 (p + 1) = rl 0 p + 11 := h
  rw [rl_s s p, rl_s s (p + 1)]
  refine ⟨by omega, fun r h1 h2 => fR_f (Or.inr ?_)⟩
  omega
theorem fR_gap2 {q : GD} {s : Nat} : ∀ r, 1000 * s + 10 ≤ r → r < rl s 0 → fR q r = false := by
  intro r h1 h2
  have : rl s 0 = 1000 * s + 110 := by rw [rl_s]; rfl
  exact fR_f (by omega)
theorem rl_end (s : Nat) : rl s 810 = 1000 * (s + 1) + 10 := by rw [rl_s, show rl 0 810 = 1010 from rfl]; omega
theorem cR_skip {q : GD} {a b : Nat} (h : a ≤ b) (hf : ∀ r, a ≤ r → r < b → fR q r = false) : cR q b = cR q a := by
  have := nsum_ext (f := fun r => if fR q r = true then 1 else 0) (n := a) (b - a) (fun r h1 h2 => by
    show (if fR q r = true then 1 else 0) = 0
    rw [hf r h1 (by omega)]; rfl)
  rw [show a + (b - a) = b by omega] at this
  exact this
theorem cR_step {q : GD} {s p : Nat} (hp : p < 810) : cR q (rl s (p + 1)) = cR q (rl s p) + f1 q s p := by
  obtain ⟨h1, h2⟩ := fR_gap (q := q) (s := s) hp
  rw [cR_skip h1 h2]
  show cR q (rl s p) + (if fR q (rl s p) = true then 1 else 0) = _
  rw [rl_f hp]; rfl
theorem cR_p {q : GD} {s : Nat} : ∀ p, p ≤ 810 → cR q (rl s p) = cR q (rl s 0) + nsum (fun p => f1 q s p) p := by
  intro p
  induction p with
  | zero => intro _; exact (Nat.add_zero _).symm
  | succ p ih =>
    intro hp
    rw [cR_step (by omega), ih (by omega)]
    show _ = _ + (nsum (fun p => f1 q s p) p + f1 q s p)
    omega
theorem rl_ge (s : Nat) : 1000 * s + 10 ≤ rl s 0 := by rw [rl_s, show rl 0 0 = 110 from rfl]; omega
theorem cR_all {q : GD} : ∀ n, cR q (1000 * n + 10) = nsum (fun s => nsum (fun p => f1 q s p) 810) n := by
  intro n
  induction n with
  | zero =>
    have := cR_skip (q := q) (a := 0) (b := 10) (by omega) (fun r _ h => fR_f (by omega))
    exact this
  | succ n ih =>
    rw [← rl_end, cR_p 810 (Nat.le_refl _), cR_skip (rl_ge n) fR_gap2, ih]; rfl
theorem cR_hm (q : GD) : cR q 10000 = hm q 810 := by
  have h1 := cR_skip (q := q) (a := 10000) (b := 1000 * 10 + 10) (by omega) (fun r _ _ => fR_f (by omega))
  rw [← h1, cR_all 10]
  exact (nsum_swap (f := fun s p => f1 q s p) 10 810).symm
theorem cR_0 (q : GD) : cR q 1010 = 0 := by
  have h := cR_all (q := q) 1
  have h : cR q 1010 = 0 + nsum (fun p => f1 q 0 p) 810 := h
  rw [h]
  have := nsum_ext (f := fun p => f1 q 0 p) (n := 0) 810 (fun p _ _ => by unfold f1; rw [fit_0]; rfl)
  rw [Nat.zero_add] at this
  rw [this]; rfl
theorem cR_le (q : GD) (n : Nat) : cR q n ≤ n := by
  have := nsum_le (f := fun r => if fR q r = true then 1 else 0) (b := 1) n (fun r _ => by show (if _ then 1 else 0) ≤ 1; split <;> omega)
  unfold cR
  omega
theorem fnd_skip {q : GD} {k : Int32} : ∀ j m a, (∀ r, a ≤ r → r < a + j → fR q r = false) → fnd q k (m + j) a = fnd q k m (a + j) := by
  intro j
  induction j with
  | zero => intro m a _; rfl
  | succ j ih =>
    intro m a h
    show (if fR q a = true ∧ nI (cR q a) = k then nI a else fnd q k (m + j) (a + 1)) = _
    rw [if_neg (fun e => by rw [h a (Nat.le_refl _) (by omega)] at e; exact absurd e.1 (by decide)), ih m (a + 1) (fun r h1 h2 => h r (by omega) (by omega)), show a + 1 + j = a + (j + 1) by omega]
theorem fnd_to {q : GD} {k : Int32} {a b E : Nat} (h : a ≤ b) (hb : b ≤ E) (hf : ∀ r, a ≤ r → r < b → fR q r = false) : fnd q k (E - a) a = fnd q k (E - b) b := by
  have := fnd_skip (q := q) (k := k) (b - a) (E - b) a (fun r h1 h2 => hf r h1 (by omega))
  rw [show E - b + (b - a) = E - a by omega, show a + (b - a) = b by omega] at this
  exact this
/-! places of which some fact is not so -/
theorem msn_hi {q : GD} {s p k : Nat} (W : GW q) (hk : k < 32) : ∀ n, n ≤ q.1 → tb (msn q s p n) k = true → k < 12 := by
  intro n
  induction n with
  | zero => intro _ h; rw [show msn q s p 0 = 0 from rfl, tb_0 hk] at h; cases h
  | succ n ih =>
    intro hn h
    have hw := (W.2 n (by omega)).1
    have h : tb (if soB q s p n = true then msn q s p n else msn q s p n ||| (1 : Int32) <<< (nI (q.2.1 n) &&& 31)) k = true := h
    split at h
    · exact ih (by omega) h
    · rw [tb_or hk, tb_bit (by omega) hk, Bool.or_eq_true, decide_eq_true_eq] at h
      rcases h with h | h
      · exact ih (by omega) h
      · omega
/-- all that fit, of those ahead of pace p and, at pace p, of start s, have a fact at k that isn't so -/
def MA (q : GD) (p s k : Nat) : Prop := ∀ s' p', s' ≤ 9 → (p' < p ∨ (p' = p ∧ s' < s)) → fitB q s' p' = true → tb (msn q s' p' q.1) k = true
theorem MA_s {q : GD} {p s k : Nat} (hs : s ≤ 9) : MA q p (s + 1) k ↔ MA q p s k ∧ (fitB q s p = true → tb (msn q s p q.1) k = true) := by
  constructor
  · intro h
    exact ⟨fun s' p' h1 h2 h3 => h s' p' h1 (by omega) h3, fun h1 => h s p hs (by omega) h1⟩
  · intro h s' p' h1 h2 h3
    by_cases e : p' = p ∧ s' = s
    · obtain ⟨rfl, rfl⟩ := e
      exact h.2 h3
    · exact h.1 s' p' h1 (by omega) h3
theorem MA_n {q : GD} {p k : Nat} : MA q p 10 k ↔ MA q (p + 1) 0 k := by
  constructor
  · intro h s' p' h1 h2 h3
    exact h s' p' h1 (by omega) h3
  · intro h s' p' h1 h2 h3
    exact h s' p' h1 (by omega) h3
theorem MA_e {q : GD} {p s k : Nat} (hp : p < 810) (h : MA q 810 0 k) : MA q p s k := fun s' p' h1 h2 h3 => h s' p' h1 (by omega) h3
/-- the least or greatest of some numbers; -1 of none -/
def Ext (y : Int32) (S : Nat → Prop) (x : Int32) : Prop := (x = -1 ∧ ∀ v, ¬ S v) ∨ ∃ v, v ≤ 108 ∧ x = nI v ∧ S v ∧ ∀ u, S u → if y = 0 then v ≤ u else u ≤ v
theorem Ext.u {y : Int32} {S T : Nat → Prop} {x x' : Int32} (h : Ext y S x) (h' : Ext y T x') (e : ∀ v, S v ↔ T v) : x = x' := by
  rcases h with ⟨h1, h2⟩ | ⟨v, -, h1, h2, h3⟩
  · rcases h' with ⟨a1, a2⟩ | ⟨v', -, a1, a2, a3⟩
    · rw [h1, a1]
    · exact absurd ((e v').mpr a2) (h2 v')
  · rcases h' with ⟨a1, a2⟩ | ⟨v', -, a1, a2, a3⟩
    · exact absurd ((e v).mp h2) (a2 v)
    · have b1 := h3 v' ((e v').mpr a2)
      have b2 := a3 v ((e v).mp h2)
      have : v = v' := by
        by_cases hy : y = 0
        · rw [if_pos hy] at b1 b2; omega
        · rw [if_neg hy] at b1 b2; omega
      rw [h1, a1, this]
theorem Ext.same {y : Int32} {S T : Nat → Prop} {x : Int32} (h : Ext y S x) (e : ∀ v, T v ↔ S v) : Ext y T x := by
  rcases h with ⟨h1, h2⟩ | ⟨v, h0, h1, h2, h3⟩
  · exact Or.inl ⟨h1, fun v hv => h2 v ((e v).mp hv)⟩
  · exact Or.inr ⟨v, h0, h1, (e v).mpr h2, fun u hu => h3 u ((e u).mp hu)⟩
theorem Ext.new {y : Int32} {S T : Nat → Prop} {x : Int32} {c : Nat} (hc : c ≤ 108) (h : Ext y S x) (hx : x = -1) (e : ∀ v, T v ↔ S v ∨ v = c) : Ext y T (nI c) := by
  rcases h with ⟨h1, h2⟩ | ⟨v, h0, h1, h2, h3⟩
  · refine Or.inr ⟨c, hc, rfl, (e c).mpr (Or.inr rfl), fun u hu => ?_⟩
    rcases (e u).mp hu with h | h
    · exact absurd h (h2 u)
    · subst h; split <;> omega
  · exact absurd (h1.symm.trans hx) (nI_m1' (by omega))
theorem Ext.keep {y : Int32} {S T : Nat → Prop} {x : Int32} {c : Nat} (hc : c ≤ 108) (h : Ext y S x) (hx : ¬ x = -1) (e : ∀ v, T v ↔ S v ∨ v = c) (h0 : y = 0 → x ≤ nI c) (h1 : ¬ y = 0 → nI c ≤ x) : Ext y T x := by
  rcases h with ⟨a1, a2⟩ | ⟨v, a0, a1, a2, a3⟩
  · exact absurd a1 hx
  · refine Or.inr ⟨v, a0, a1, (e v).mpr (Or.inl a2), fun u hu => ?_⟩
    rcases (e u).mp hu with h | h
    · exact a3 u h
    · subst h
      split
      · rename_i hy; have := h0 hy; rw [a1, nI_leI (by omega) (by omega)] at this; exact this
      · rename_i hy; have := h1 hy; rw [a1, nI_leI (by omega) (by omega)] at this; exact this
theorem Ext.take {y : Int32} {S T : Nat → Prop} {x : Int32} {c : Nat} (hc : c ≤ 108) (h : Ext y S x) (hx : ¬ x = -1) (e : ∀ v, T v ↔ S v ∨ v = c) (h0 : y = 0 → ¬ x ≤ nI c) (h1 : ¬ y = 0 → ¬ nI c ≤ x) : Ext y T (nI c) := by
  rcases h with ⟨a1, a2⟩ | ⟨v, a0, a1, a2, a3⟩
  · exact absurd a1 hx
  · refine Or.inr ⟨c, hc, rfl, (e c).mpr (Or.inr rfl), fun u hu => ?_⟩
    rcases (e u).mp hu with h | h
    · have b := a3 u h
      split
      · rename_i hy; have := h0 hy; rw [a1, nI_leI (by omega) (by omega)] at this; rw [if_pos hy] at b; omega
      · rename_i hy; have := h1 hy; rw [a1, nI_leI (by omega) (by omega)] at this; rw [if_neg hy] at b; omega
    · subst h; split <;> omega
/-- the years of the rules that fit, their paces below n -/
def yB (q : GD) (n v : Nat) : Prop := ∃ s p, s ≤ 9 ∧ p < n ∧ fitB q s p = true ∧ v = yr q p
theorem yB_t {q : GD} {s p : Nat} (hs : s ≤ 9) (h : fitB q s p = true) (v : Nat) : yB q (p + 1) v ↔ yB q p v ∨ v = yr q p := by
  constructor
  · rintro ⟨s', p', h1, h2, h3, h4⟩
    by_cases e : p' = p
    · subst e; exact Or.inr h4
    · exact Or.inl ⟨s', p', h1, by omega, h3, h4⟩
  · rintro (⟨s', p', h1, h2, h3, h4⟩ | h4)
    · exact ⟨s', p', h1, by omega, h3, h4⟩
    · exact ⟨s, p, hs, by omega, h, h4⟩
theorem yB_f {q : GD} {p : Nat} (h : ∀ s, s ≤ 9 → fitB q s p = false) (v : Nat) : yB q (p + 1) v ↔ yB q p v := by
  constructor
  · rintro ⟨s', p', h1, h2, h3, h4⟩
    by_cases e : p' = p
    · subst e; rw [h s' h1] at h3; cases h3
    · exact ⟨s', p', h1, by omega, h3, h4⟩
  · rintro ⟨s', p', h1, h2, h3, h4⟩
    exact ⟨s', p', h1, by omega, h3, h4⟩
theorem zmx0 {a b : Nat} (ha : a < 2 ^ 30) (hb : b < 2 ^ 30) : zmmax 0 (nI a - nI b) = nI (a - b) := by
  by_cases h : b ≤ a
  · rw [pk_sub h, n0, zmmax_n (by decide) (by omega), Nat.zero_max]
  · have h1 : ¬ (0 : Int32) < nI a - nI b := by
      rw [Int32.lt_iff_toInt_lt, pk_sub_toInt ha hb]
      show ¬ (0 : Int) < _
      omega
    unfold zmmax
    rw [if_neg h1, show a - b = 0 by omega]; rfl
section JUDGE
variable {g : zG} {I : Nat → Nat → Int32} {P : Nat → Nat → Option Nat} {a : Nat} {q : GD}
theorem c_howMany (S : Sg g) (Q : Sp P) (W : GW q) (R : RuD g I P a q) : Cl mX7_howMany [.ref 88] (g, I, P) (some (.int (nI (hm q 810)))) (g, I, P) := by
  have key : ∀ m p, p + m = 810 → Zt none mX7_howMany 0 0 4 [(0, .ref 88), (1, .int (nI (hm q p))), (2, .int (nI p))] [] (g, I, P) (some (.int (nI (hm q 810)))) (g, I, P) := by
    intro m
    induction m with
    | zero =>
      intro p hp
      obtain rfl : p = 810 := hp
      exact wX7_howMany_4 ⟨fun _ => ⟨rfl, rfl⟩, fun e => absurd (Int32.le_refl _) e⟩
    | succ m ih =>
      intro p hp
      obtain ⟨b, hb, e⟩ := bs_N (f := fun s => fitB q s p) 10 (Nat.le_refl _)
      have ih := ih (p + 1) (by omega)
      refine wX7_howMany_4 ⟨fun e => absurd e (nI_ge (b := 810) (by omega) (by decide)), fun _ => ⟨S.k 88 7 (by decide), _, c_startsOf S Q W R (by omega), nI (bt b), ?_, ?_⟩⟩
      · rw [e]; exact c_bitCount hb
      · rw [nI_add, nI_1, bs_bt hb e]; exact ih
  exact eX7_howMany (wX7_howMany_0 (key 810 0 (by omega)))
theorem c_missedPlaces {s p : Nat} (S : Sg g) (W : GW q) (R : RuA g I P a q) (hs : s ≤ 9) (hp : p < 810) : Cl mX7_missedPlaces [.ref 88, .int (nI s), .int (nI p)] (g, I, P) (some (.int (msn q s p q.1))) (g, I, P) := by
  have hn := W.1
  have A := R.2.2.1
  have D := R.2.2.2.1
  have key : ∀ m k, k + m = q.1 → Zt none mX7_missedPlaces 0 0 5 [(0, .ref 88), (1, .int (nI s)), (2, .int (nI p)), (3, .int (msn q s p k)), (4, .int (nI k))] [] (g, I, P) (some (.int (msn q s p q.1))) (g, I, P) := by
    intro m
    induction m with
    | zero =>
      intro k hk
      have hk : k = q.1 := hk
      subst hk
      exact wX7_missedPlaces_5 ⟨S.k 88 7 (by decide), _, R.2.1, A.1, fun _ => ⟨rfl, rfl⟩, fun e => absurd (by rw [D.1]; exact Int32.le_refl _) e⟩
    | succ m ih =>
      intro k hk
      have hw := W.2 k (by omega)
      have hl := (lsv_le (k := k) W hp).2
      obtain ⟨d1, d2⟩ := D.2 k (by omega)
      have ih := ih (k + 1) (by omega)
      have ih : Zt none mX7_missedPlaces 0 0 5 [(0, .ref 88), (1, .int (nI s)), (2, .int (nI p)), (3, .int (if soB q s p k = true then msn q s p k else msn q s p k ||| (1 : Int32) <<< (nI (q.2.1 k) &&& 31))), (4, .int (nI (k + 1)))] [] (g, I, P) (some (.int (msn q s p q.1))) (g, I, P) := ih
      refine wX7_missedPlaces_5 ⟨S.k 88 7 (by decide), _, R.2.1, A.1, fun e => ?_, fun _ => ⟨S.k 88 7 (by decide), _, R.2.1, A.1, _, A.2.2.2.1, _, c_got A.2.1.1 A.2.2.1.1 (by decide) (by omega), S.k 88 7 (by decide), nI (lsv q p k), ?_, S.k 88 7 (by decide), _, R.2.1, A.1, _, A.2.2.2.2, _, c_got A.2.1.2 A.2.2.1.2 (by decide) (by omega), fun e => ?_, fun e => ⟨(1 : Int32) <<< (nI (q.2.1 k) &&& 31), ?_, ?_⟩⟩⟩
      · rw [D.1] at e; exact absurd e (nI_ge (by omega) (by omega))
      · rw [d1]; exact c_lessBy S W R hp (by omega)
      · rw [zmx0 (by omega) (by omega), d2, nI_eq (by omega) (by omega)] at e
        rw [if_pos (show soB q s p k = true by unfold soB; exact decide_eq_true e)] at ih
        rw [nI_1]; exact ih
      · rw [d1]; exact c_bit (by omega)
      · rw [zmx0 (by omega) (by omega), d2, nI_eq (by omega) (by omega)] at e
        rw [if_neg (show ¬ soB q s p k = true by unfold soB; rw [decide_eq_true_eq]; exact e)] at ih
        rw [nI_1]; exact ih
  exact eX7_missedPlaces (wX7_missedPlaces_0 (key q.1 0 (by omega)))
theorem tb_4095 : ∀ k : Fin 32, tb 4095 k.val = decide (k.val < 12) := by decide +kernel
theorem c_missedByAll (S : Sg g) (Q : Sp P) (W : GW q) (R : RuD g I P a q) : ∃ X, Cl mX7_missedByAll [.ref 88] (g, I, P) (some (.int X)) (g, I, P) ∧ ∀ k, k < 32 → (tb X k = true ↔ k < 12 ∧ MA q 810 0 k) := by
  have key : ∀ m p X, p + m = 810 → (∀ k, k < 32 → (tb X k = true ↔ k < 12 ∧ MA q p 0 k)) → ∃ Y, Zt none mX7_missedByAll 0 0 6 [(0, .ref 88), (1, .int X), (2, .int (nI p))] [] (g, I, P) (some (.int Y)) (g, I, P) ∧ ∀ k, k < 32 → (tb Y k = true ↔ k < 12 ∧ MA q 810 0 k) := by
    intro m
    induction m with
    | zero =>
      intro p X hp h
      obtain rfl : p = 810 := hp
      exact ⟨X, wX7_missedByAll_6 ⟨fun _ => ⟨rfl, rfl⟩, fun e => absurd (Int32.le_refl _) e⟩, h⟩
    | succ m ih =>
      intro p X hp h
      have inn : ∀ n s X, s + n = 10 → (∀ k, k < 32 → (tb X k = true ↔ k < 12 ∧ MA q p s k)) → ∃ Y, Zt none mX7_missedByAll 0 0 19 [(0, .ref 88), (1, .int X), (2, .int (nI p)), (3, .int (nI s))] [] (g, I, P) (some (.int Y)) (g, I, P) ∧ ∀ k, k < 32 → (tb Y k = true ↔ k < 12 ∧ MA q 810 0 k) := by
        intro n
        induction n with
        | zero =>
          intro s X hs h
          obtain rfl : s = 10 := hs
          obtain ⟨Y, z, hY⟩ := ih (p + 1) X (by omega) (fun k hk => by rw [h k hk, MA_n])
          exact ⟨Y, wX7_missedByAll_19 ⟨fun _ => by rw [nI_1]; exact z, fun e => absurd (by decide) e⟩, hY⟩
        | succ n ihn =>
          intro s X hs h
          have tbs : tb (bs (fun s => fitB q s p) 10) s = fitB q s p := by rw [tb_bs (by decide) (by omega), decide_eq_true (by omega), Bool.true_and]
          cases hf : fitB q s p with
          | false =>
            obtain ⟨Y, z, hY⟩ := ihn (s + 1) X (by omega) (fun k hk => by rw [h k hk, MA_s (by omega), hf]; simp)
            refine ⟨Y, wX7_missedByAll_19 ⟨fun e => absurd e (nI_nlt (a := 9) (by omega) (by decide)), fun _ => ⟨S.k 88 7 (by decide), _, c_startsOf S Q W R (by omega), _, c_has (by omega), fun _ => by rw [nI_1]; exact z, fun e => ?_⟩⟩, hY⟩
            rw [← ne_eq, zb_ne, tbs, hf] at e; cases e
          | true =>
            obtain ⟨Y, z, hY⟩ := ihn (s + 1) (X &&& msn q s p q.1) (by omega) (fun k hk => by
              rw [tb_and hk, Bool.and_eq_true, h k hk, MA_s (by omega), hf]
              constructor
              · rintro ⟨⟨h1, h2⟩, h3⟩; exact ⟨h1, h2, fun _ => h3⟩
              · rintro ⟨h1, h2, h3⟩; exact ⟨⟨h1, h2⟩, h3 rfl⟩)
            refine ⟨Y, wX7_missedByAll_19 ⟨fun e => absurd e (nI_nlt (a := 9) (by omega) (by decide)), fun _ => ⟨S.k 88 7 (by decide), _, c_startsOf S Q W R (by omega), _, c_has (by omega), fun e => ?_, fun _ => ⟨S.k 88 7 (by decide), _, c_missedPlaces S W R.1 (by omega) (by omega), by rw [nI_1]; exact z⟩⟩⟩, hY⟩
            rw [zb_eq, tbs, hf] at e; cases e
      by_cases h0 : X = 0
      · refine ⟨X, wX7_missedByAll_6 ⟨fun e => absurd e (nI_ge (b := 810) (by omega) (by decide)), fun _ => ⟨fun _ => ⟨rfl, rfl⟩, fun e => absurd h0 e⟩⟩, fun k hk => ⟨fun e => ?_, fun e => ?_⟩⟩
        · rw [h0, tb_0 hk] at e; cases e
        · exact (h k hk).mpr ⟨e.1, MA_e (by omega) e.2⟩
      · obtain ⟨Y, z, hY⟩ := inn 9 1 X (by omega) (fun k hk => by rw [h k hk, MA_s (s := 0) (by omega), fit_0]; simp)
        exact ⟨Y, wX7_missedByAll_6 ⟨fun e => absurd e (nI_ge (b := 810) (by omega) (by decide)), fun _ => ⟨fun e => absurd e h0, fun _ => z⟩⟩, hY⟩
  obtain ⟨Y, z, hY⟩ := key 810 0 4095 (by omega) (fun k hk => by
    rw [show tb 4095 k = decide (k < 12) from tb_4095 ⟨k, hk⟩, decide_eq_true_eq]
    exact ⟨fun h => ⟨h, fun s' p' h1 h2 h3 => by omega⟩, fun h => h.1⟩)
  exact ⟨Y, eX7_missedByAll (wX7_missedByAll_0 z), hY⟩
theorem c_ruleOf {k : Int32} (S : Sg g) (Q : Sp P) (W : GW q) (R : RuD g I P a q) : Cl mX7_ruleOf [.ref 88, .int k] (g, I, P) (some (.int (fnd q k 9000 1010))) (g, I, P) := by
  have key : ∀ m s, s + m = 10 → 1 ≤ s → Zt none mX7_ruleOf 0 0 4 [(0, .ref 88), (1, .int k), (2, .int (nI (cR q (1000 * s + 10)))), (3, .int (nI s))] [] (g, I, P) (some (.int (fnd q k (10010 - (1000 * s + 10)) (1000 * s + 10)))) (g, I, P) := by
    intro m
    induction m with
    | zero =>
      intro s hs h1
      obtain rfl : s = 10 := hs
      exact wX7_ruleOf_4 ⟨fun _ => ⟨rfl, rfl⟩, fun e => absurd (by decide) e⟩
    | succ m ih =>
      intro s hs h1
      have e0 : rl s 0 = 1000 * s + 110 := by rw [rl_s]; rfl
      have inn : ∀ n p, p + n = 810 → Zt none mX7_ruleOf 0 0 13 [(0, .ref 88), (1, .int k), (2, .int (nI (cR q (rl s p)))), (3, .int (nI s)), (4, .int (nI p))] [] (g, I, P) (some (.int (fnd q k (10010 - rl s p) (rl s p)))) (g, I, P) := by
        intro n
        induction n with
        | zero =>
          intro p hp
          obtain rfl : p = 810 := hp
          rw [rl_end]
          exact wX7_ruleOf_13 ⟨fun _ => by rw [nI_1]; exact ih (s + 1) (by omega) (by omega), fun e => absurd (Int32.le_refl _) e⟩
        | succ n ihn =>
          intro p hp
          have ihn := ihn (p + 1) (by omega)
          have hp8 : p < 810 := by omega
          have tbs : tb (bs (fun s => fitB q s p) 10) s = fitB q s p := by rw [tb_bs (by decide) (by omega), decide_eq_true (by omega), Bool.true_and]
          have hr : rl s p < 10000 := by have := (rl_dec ⟨p, hp8⟩).1; rw [rl_s]; have : rl 0 p < 1000 := this; omega
          have gp1 := fR_gap (q := q) (s := s) hp8
          have hr1 : rl s (p + 1) ≤ 10010 := by
            have h := rl_gap ⟨p, hp8⟩
            have h : rl 0 (p + 1) = rl 0 p + 1 ∨ rl 0 p % 100 = 99 ∧ rl 0 (p + 1) = rl 0 p + 11 := h
            rw [rl_s] at hr
            rw [rl_s]
            omega
          have ef : fnd q k (10010 - rl s p) (rl s p) = if fitB q s p = true ∧ nI (cR q (rl s p)) = k then nI (rl s p) else fnd q k (10010 - rl s (p + 1)) (rl s (p + 1)) := by
            rw [← fnd_to gp1.1 hr1 gp1.2, show 10010 - rl s p = (10010 - (rl s p + 1)) + 1 by omega, ← rl_f hp8]; rfl
          rw [cR_step hp8] at ihn
          rw [ef]
          refine wX7_ruleOf_13 ⟨fun e => absurd e (nI_ge (b := 810) (by omega) (by decide)), fun _ => ⟨S.k 88 7 (by decide), _, c_startsOf S Q W R hp8, _, c_has (by omega), fun e => ?_, fun e => ⟨fun e2 => ?_, fun e2 => ⟨_, c_gap hp8, _, c_wear hp8, _, c_since hp8, ?_, rfl⟩⟩⟩⟩
          · rw [zb_eq, tbs] at e
            rw [if_neg (by rw [e]; simp), nI_1]
            rw [show f1 q s p = 0 by unfold f1; rw [e]; rfl] at ihn
            exact ihn
          · rw [← ne_eq, zb_ne, tbs] at e
            rw [if_neg (fun h => e2 h.2), nI_1, nI_1]
            rw [show f1 q s p = 1 by unfold f1; rw [e]; rfl] at ihn
            exact ihn
          · rw [← ne_eq, zb_ne, tbs] at e
            rw [if_pos ⟨e, e2⟩, show (1000 : Int32) = nI 1000 from rfl, show (100 : Int32) = nI 100 from rfl, show (10 : Int32) = nI 10 from rfl, pk_mul, pk_mul, pk_mul, nI_add, nI_add, nI_add]; rfl
      have z := inn 810 0 (by omega)
      rw [cR_skip (rl_ge s) fR_gap2, ← fnd_to (rl_ge s) (by omega) fR_gap2] at z
      exact wX7_ruleOf_4 ⟨fun e => absurd e (nI_nlt (a := 9) (by omega) (by decide)), fun _ => z⟩
  have z := key 9 1 (by omega) (by decide)
  rw [show 1000 * 1 + 10 = 1010 from rfl, cR_0] at z
  exact eX7_ruleOf (wX7_ruleOf_0 z)
theorem c_years {y : Int32} (S : Sg g) (Q : Sp P) (W : GW q) (R : RuD g I P a q) : ∃ x, Cl mX7_years [.ref 88, .int y] (g, I, P) (some (.int x)) (g, I, P) ∧ Ext y (yB q 810) x := by
  have key : ∀ m p x, p + m = 810 → Ext y (yB q p) x → ∃ w, Zt none mX7_years 0 0 4 [(0, .ref 88), (1, .int y), (2, .int x), (3, .int (nI p))] [] (g, I, P) (some (.int w)) (g, I, P) ∧ Ext y (yB q 810) w := by
    intro m
    induction m with
    | zero =>
      intro p x hp h
      obtain rfl : p = 810 := hp
      exact ⟨x, wX7_years_4 ⟨fun _ => ⟨rfl, rfl⟩, fun e => absurd (Int32.le_refl _) e⟩, h⟩
    | succ m ih =>
      intro p x hp h
      have hp8 : p < 810 := by omega
      have hy := yr_le (q := q) W hp8
      have ey : I 88 1 * nI (gp p) + nI (sn p) = nI (yr q p) := by rw [R.1.2.2.2.2, pk_mul, nI_add]; rfl
      have b0 : bs (fun s => fitB q s p) 10 = 0 ↔ ∀ s, s ≤ 9 → fitB q s p = false := by
        rw [bs_0 (by decide)]
        constructor
        · intro e s hs
          cases hf : fitB q s p with
          | false => rfl
          | true => rw [anyB_t (p := fun s => fitB q s p) 10 s (by omega) hf] at e; cases e
        · intro e; exact anyB_f (fun s hs => e s (by omega))
      by_cases hf : ∀ s, s ≤ 9 → fitB q s p = false
      · obtain ⟨w, z, hw⟩ := ih (p + 1) x (by omega) (h.same (yB_f hf))
        have z56 : ∀ c, Zt none mX7_years 0 0 56 [(0, .ref 88), (1, .int y), (2, .int x), (3, .int (nI p)), (4, .int (nI (yr q p)))] [.int c] (g, I, P) (some (.int w)) (g, I, P) := by
          intro c
          exact wX7_years_56 ⟨fun _ => by rw [nI_1]; exact z, fun _ => ⟨S.k 88 7 (by decide), _, c_startsOf S Q W R hp8, fun _ => by rw [nI_1]; exact z, fun e => absurd (b0.mpr hf) e⟩⟩
        refine ⟨w, wX7_years_4 ⟨fun e => absurd e (nI_ge (b := 810) (by omega) (by decide)), fun _ => ⟨S.k 88 7 (by decide), _, c_gap hp8, _, c_since hp8, ?_⟩⟩, hw⟩
        rw [ey]
        exact ⟨fun _ => z56 1, fun _ => ⟨fun _ => ⟨fun _ => z56 0, fun _ => z56 1⟩, fun _ => ⟨fun _ => z56 0, fun _ => z56 1⟩⟩⟩
      · obtain ⟨s, hs, hs1⟩ : ∃ s, s ≤ 9 ∧ fitB q s p = true := by
          cases ha : anyB (fun s => fitB q s p) 10 with
          | false => exact absurd (b0.mp ((bs_0 (by decide)).mpr ha)) hf
          | true =>
            obtain ⟨s, h1, h2⟩ := anyB_e 10 ha
            exact ⟨s, by omega, h2⟩
        have eY := yB_t hs hs1
        have z0 : Ext y (yB q (p + 1)) x → ∃ w, Zt none mX7_years 0 0 56 [(0, .ref 88), (1, .int y), (2, .int x), (3, .int (nI p)), (4, .int (nI (yr q p)))] [.int 0] (g, I, P) (some (.int w)) (g, I, P) ∧ Ext y (yB q 810) w := by
          intro e
          obtain ⟨w, z, hw⟩ := ih (p + 1) x (by omega) e
          exact ⟨w, wX7_years_56 ⟨fun _ => by rw [nI_1]; exact z, fun e => absurd rfl e⟩, hw⟩
        have z1 : Ext y (yB q (p + 1)) (nI (yr q p)) → ∃ w, Zt none mX7_years 0 0 56 [(0, .ref 88), (1, .int y), (2, .int x), (3, .int (nI p)), (4, .int (nI (yr q p)))] [.int 1] (g, I, P) (some (.int w)) (g, I, P) ∧ Ext y (yB q 810) w := by
          intro e
          obtain ⟨w, z, hw⟩ := ih (p + 1) _ (by omega) e
          exact ⟨w, wX7_years_56 ⟨fun e => absurd e (by decide), fun _ => ⟨S.k 88 7 (by decide), _, c_startsOf S Q W R hp8, fun e => absurd (b0.mp e) hf, fun _ => by rw [nI_1]; exact z⟩⟩, hw⟩
        by_cases hx : x = -1
        · obtain ⟨w, z, hw⟩ := z1 (h.new hy hx eY)
          refine ⟨w, wX7_years_4 ⟨fun e => absurd e (nI_ge (b := 810) (by omega) (by decide)), fun _ => ⟨S.k 88 7 (by decide), _, c_gap hp8, _, c_since hp8, ?_⟩⟩, hw⟩
          rw [ey]
          exact ⟨fun _ => z, fun e => absurd hx e⟩
        · by_cases h0 : y = 0
          · by_cases hc : x ≤ nI (yr q p)
            · obtain ⟨w, z, hw⟩ := z0 (h.keep hy hx eY (fun _ => hc) (fun e => absurd h0 e))
              refine ⟨w, wX7_years_4 ⟨fun e => absurd e (nI_ge (b := 810) (by omega) (by decide)), fun _ => ⟨S.k 88 7 (by decide), _, c_gap hp8, _, c_since hp8, ?_⟩⟩, hw⟩
              rw [ey]
              exact ⟨fun e => absurd e hx, fun _ => ⟨fun _ => ⟨fun _ => z, fun e => absurd hc e⟩, fun e => absurd h0 e⟩⟩
            · obtain ⟨w, z, hw⟩ := z1 (h.take hy hx eY (fun _ => hc) (fun e => absurd h0 e))
              refine ⟨w, wX7_years_4 ⟨fun e => absurd e (nI_ge (b := 810) (by omega) (by decide)), fun _ => ⟨S.k 88 7 (by decide), _, c_gap hp8, _, c_since hp8, ?_⟩⟩, hw⟩
              rw [ey]
              exact ⟨fun e => absurd e hx, fun _ => ⟨fun _ => ⟨fun e => absurd e hc, fun _ => z⟩, fun e => absurd h0 e⟩⟩
          · by_cases hc : nI (yr q p) ≤ x
            · obtain ⟨w, z, hw⟩ := z0 (h.keep hy hx eY (fun e => absurd e h0) (fun _ => hc))
              refine ⟨w, wX7_years_4 ⟨fun e => absurd e (nI_ge (b := 810) (by omega) (by decide)), fun _ => ⟨S.k 88 7 (by decide), _, c_gap hp8, _, c_since hp8, ?_⟩⟩, hw⟩
              rw [ey]
              exact ⟨fun e => absurd e hx, fun _ => ⟨fun e => absurd e h0, fun _ => ⟨fun _ => z, fun e => absurd hc e⟩⟩⟩
            · obtain ⟨w, z, hw⟩ := z1 (h.take hy hx eY (fun e => absurd e h0) (fun _ => hc))
              refine ⟨w, wX7_years_4 ⟨fun e => absurd e (nI_ge (b := 810) (by omega) (by decide)), fun _ => ⟨S.k 88 7 (by decide), _, c_gap hp8, _, c_since hp8, ?_⟩⟩, hw⟩
              rw [ey]
              exact ⟨fun e => absurd e hx, fun _ => ⟨fun e => absurd e h0, fun _ => ⟨fun e => absurd e hc, fun _ => z⟩⟩⟩
  obtain ⟨w, z, hw⟩ := key 810 0 (-1) (by omega) (Or.inl ⟨rfl, fun v hv => by obtain ⟨s, p, h1, h2, -⟩ := hv; omega⟩)
  exact ⟨w, eX7_years (wX7_years_0 z), hw⟩
end JUDGE
