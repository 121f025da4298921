/-! ===== texts: what they tell, as values ===== -/
def upf {α : Type} (f : Nat → α) (i : Nat) (x : α) : Nat → α := fun j => if j = i then x else f j
theorem upf_s {α : Type} (f : Nat → α) (i : Nat) (x : α) : upf f i x i = x := by unfold upf; rw [if_pos rfl]
theorem upf_n {α : Type} (f : Nat → α) {i j : Nat} (x : α) (h : j ≠ i) : upf f i x j = f j := by unfold upf; rw [if_neg h]
/-- all that a text has told so far: a hill, how far its words are told of, a century, lines, a log -/
abbrev PS : Type := HD × Nat × CD × LD × GD
abbrev yH (y : PS) : HD := y.1
abbrev yF (y : PS) : Nat := y.2.1
abbrev yC (y : PS) : CD := y.2.2.1
abbrev yL (y : PS) : LD := y.2.2.2.1
abbrev yG (y : PS) : GD := y.2.2.2.2
abbrev FS : Type := Int32 × Int32
def nt (F : FS) (c : Bool) (k q : Nat) : FS := if F.1 = 0 ∧ c = false then (nI k, nI q) else F
theorem nt_t {F : FS} {k q : Nat} : nt F true k q = F := by unfold nt; rw [if_neg (fun h => by cases h.2)]
theorem nt_n {F : FS} {c : Bool} {k q : Nat} (h : F.1 ≠ 0) : nt F c k q = F := by unfold nt; rw [if_neg (fun e => h e.1)]
theorem nt_f {F : FS} {k q : Nat} (h : F.1 = 0) : nt F false k q = (nI k, nI q) := by unfold nt; rw [if_pos ⟨h, rfl⟩]
theorem nt_0 {F : FS} {c : Bool} {k q : Nat} (hk : 0 < k ∧ k < 10) (h : (nt F c k q).1 = 0) : F.1 = 0 ∧ c = true ∧ nt F c k q = F := by
  by_cases h0 : F.1 = 0
  · cases c with
    | true => exact ⟨h0, rfl, nt_t⟩
    | false =>
      rw [nt_f h0] at h
      exact absurd h (nI_ne0 hk.1 (by omega))
  · rw [nt_n h0] at h; exact absurd h h0
def rowOk (T : Tp) (p most : Nat) : Bool := decide (sZ T p ≤ most) && !anyB (fun i => decide (103 ≤ T.2 (sS T p + i))) (sZ T p)
theorem rowOk_1 {T : Tp} {p most : Nat} (h : rowOk T p most = true) : sZ T p ≤ most ∧ ∀ i, i < sZ T p → T.2 (sS T p + i) < 103 := by
  unfold rowOk at h
  rw [Bool.and_eq_true, decide_eq_true_eq] at h
  refine ⟨h.1, fun i hi => ?_⟩
  have h2 := h.2
  cases ha : anyB (fun i => decide (103 ≤ T.2 (sS T p + i))) (sZ T p) with
  | true => rw [ha] at h2; cases h2
  | false =>
    by_cases hc : 103 ≤ T.2 (sS T p + i)
    · rw [anyB_t (p := fun i => decide (103 ≤ T.2 (sS T p + i))) _ i hi (decide_eq_true hc)] at ha; cases ha
    · omega
def kLo (so : Nat) : Nat := if so = 0 then 1 else if so = 1 then 5 else if so = 2 then 10 else 11
def kHi (so : Nat) : Nat := if so = 0 then 4 else if so = 1 then 9 else if so = 2 then 10 else 11
def kS (T : Tp) (so p : Nat) : Nat := if sK T p = 1 ∧ kLo so ≤ sW T p ∧ sW T p ≤ kHi so then sW T p else 0
def kf (k : Nat) : Nat := if k = 1 ∨ k = 10 then 1 else 2
def ktw (k : Nat) : Bool := decide (k = 1 ∨ k = 2 ∨ k = 3 ∨ k = 5 ∨ k = 6 ∨ k = 11)
def ks (k : Nat) : Nat := if k = 5 ∨ k = 6 then 1 else 2
abbrev q1 (T : Tp) (p : Nat) : Nat := sE T p
abbrev q2 (T : Tp) (p : Nat) : Nat := sE T (sE T p)
abbrev q3 (T : Tp) (p : Nat) : Nat := sE T (sE T (sE T p))
/-- where a line that begins at p isn't one -/
def lF (T : Tp) (k p : Nat) : Option Nat :=
  if k = 0 then some (sS T p) else if sK T (q1 T p) ≠ kf k then some (sS T (q1 T p)) else if ktw k = true then (if sK T (q2 T p) ≠ ks k then some (sS T (q2 T p)) else if sK T (q3 T p) ≠ 3 then some (sS T (q3 T p)) else none) else if sK T (q2 T p) ≠ 3 then some (sS T (q2 T p)) else none
def lX (T : Tp) (k p : Nat) : Nat := if ktw k = true then sE T (q3 T p) else sE T (q2 T p)
/-- the fault behind a line -/
def tF (T : Tp) (k p : Nat) (y : PS) (F : FS) : FS :=
  if k = 1 then nt (nt F (decide (hN (yH y) < 10)) 3 (sS T p)) (rowOk T (q1 T p) 6) 2 (sS T (q1 T p))
  else if k = 2 then nt (nt F (decide (sN T (q1 T p) ≤ 9)) 2 (sS T (q1 T p))) (decide (sN T (q2 T p) ≤ 9)) 2 (sS T (q2 T p))
  else if k = 3 then nt (nt F (decide (sN T (q1 T p) ≤ 5)) 2 (sS T (q1 T p))) (decide (sN T (q2 T p) ≤ 9)) 2 (sS T (q2 T p))
  else if k = 4 then nt F (decide (1 ≤ sN T (q1 T p) ∧ sN T (q1 T p) ≤ 4)) 2 (sS T (q1 T p))
  else if k ≤ 6 then nt (nt (nt F (decide ((yC y).1 < 40)) 3 (sS T p)) (decide (sN T (q1 T p) ≤ 3)) 2 (sS T (q1 T p))) (rowOk T (q2 T p) 1) 2 (sS T (q2 T p))
  else if k ≤ 9 then nt (nt F (decide ((yC y).1 < 40)) 3 (sS T p)) (decide (sN T (q1 T p) ≤ 3)) 2 (sS T (q1 T p))
  else if k = 10 then nt (nt F (decide ((yL y).1 < 6)) 3 (sS T p)) (rowOk T (q1 T p) 12) 2 (sS T (q1 T p))
  else nt (nt (nt F (decide ((yG y).1 < 8)) 3 (sS T p)) (decide (sN T (q1 T p) ≤ 11)) 2 (sS T (q1 T p))) (decide (sN T (q2 T p) ≤ 9)) 2 (sS T (q2 T p))
def bitI (b : Nat) : Int32 := (1 : Int32) <<< (nI b &&& 31)
/-- the letters of a row -/
def lts (T : Tp) (p : Nat) : Nat → Nat := fun i => T.2 (sS T p + i) - 97
def yWord (T : Tp) (p : Nat) (d : HD) : HD := (hS d, hN d + 1, hF d, upf (hZ d) (hN d) (sZ T (q1 T p)), upf (hO d) (hN d) (sN T (q2 T p)), hB d, upf (hL d) (hN d) (lts T (q1 T p)), hA d)
def yFoll (a b : Nat) (d : HD) : HD := (hS d, hN d, true, hZ d, hO d, upf (hB d) a (hB d a ||| bitI b), hL d, hA d)
def yAsk (a b : Nat) (d : HD) : HD := (hS d, hN d, hF d, hZ d, hO d, hB d, hL d, upf (hA d) a (hA d a ||| bitI b))
def ySto (n : Nat) (d : HD) : HD := (n, hN d, hF d, hZ d, hO d, hB d, hL d, hA d)
def yDeed (T : Tp) (k p : Nat) (c : CD) : CD := (c.1 + 1, upf c.2.1 c.1 (k - 5), upf c.2.2.1 c.1 (sN T (q1 T p)), upf c.2.2.2 c.1 (if k ≤ 6 then nI (lts T (q2 T p) 0) else -1))
def yLine (T : Tp) (p : Nat) (l : LD) : LD := (l.1 + 1, upf l.2.1 l.1 (sZ T (q1 T p)), upf l.2.2 l.1 (lts T (q1 T p)))
def yFact (a b : Nat) (q : GD) : GD := (q.1 + 1, upf q.2.1 q.1 a, upf q.2.2 q.1 b)
def tY (T : Tp) (k p : Nat) (y : PS) : PS :=
  if k = 1 then (yWord T p (yH y), yF y, yC y, yL y, yG y)
  else if k = 2 then (yFoll (sN T (q1 T p)) (sN T (q2 T p)) (yH y), max (yF y) (max (sN T (q1 T p)) (sN T (q2 T p)) + 1), yC y, yL y, yG y)
  else if k = 3 then (yAsk (sN T (q1 T p)) (sN T (q2 T p)) (yH y), max (yF y) (sN T (q2 T p) + 1), yC y, yL y, yG y)
  else if k = 4 then (ySto (sN T (q1 T p)) (yH y), yF y, yC y, yL y, yG y)
  else if k ≤ 9 then (yH y, yF y, yDeed T k p (yC y), yL y, yG y)
  else if k = 10 then (yH y, yF y, yC y, yLine T p (yL y), yG y)
  else (yH y, yF y, yC y, yL y, yFact (sN T (q1 T p)) (sN T (q2 T p)) (yG y))
/-- what holds of all that is told while there is no fault -/
def PW (y : PS) : Prop := HW (yH y) ∧ yF y ≤ 10 ∧ (∀ w, w < 10 → (∃ m, m < 2 ^ 10 ∧ hB (yH y) w = nI m) ∧ ∀ k, k < 31 → tb (hB (yH y) w) k = true → k < yF y) ∧ (∀ q, q < 6 → (∃ m, m < 2 ^ 10 ∧ hA (yH y) q = nI m) ∧ ∀ k, k < 31 → tb (hA (yH y) q) k = true → k < yF y) ∧ CW (yC y) ∧ LW (yL y) ∧ GW (yG y)
def y0 : PS := ((2, 0, false, fun _ => 0, fun _ => 0, fun _ => 0, fun _ _ => 0, fun _ => 0), 0, (0, fun _ => 0, fun _ => 0, fun _ => 0), (0, fun _ => 0, fun _ _ => 0), (0, fun _ => 0, fun _ => 0))
theorem PW_0 : PW y0 := ⟨⟨by decide, by decide, fun w h => absurd h (Nat.not_lt_zero w), fun w h => absurd h (Nat.not_lt_zero w), fun w k h => absurd h (Nat.not_lt_zero w)⟩, by decide, fun w _ => ⟨⟨0, by decide, rfl⟩, fun k hk h => by rw [show hB (yH y0) w = 0 from rfl, tb_0 (by omega)] at h; cases h⟩, fun w _ => ⟨⟨0, by decide, rfl⟩, fun k hk h => by rw [show hA (yH y0) w = 0 from rfl, tb_0 (by omega)] at h; cases h⟩, ⟨by decide, fun w h => absurd h (Nat.not_lt_zero w)⟩, ⟨by decide, fun w h => absurd h (Nat.not_lt_zero w)⟩, ⟨by decide, fun w h => absurd h (Nat.not_lt_zero w)⟩⟩
theorem bit_or {m b : Nat} (hm : m < 2 ^ 10) (hb : b < 10) : ∃ m', m' < 2 ^ 10 ∧ nI m ||| bitI b = nI m' := by
  have := st_or ⟨m, hm⟩ ⟨b, hb⟩
  exact ⟨_, this.2, this.1⟩
theorem bit_tb {x : Int32} {b k : Nat} (hb : b < 32) (hk : k < 32) (h : tb (x ||| bitI b) k = true) : tb x k = true ∨ k = b := by
  rw [tb_or hk, show tb (bitI b) k = decide (k = b) from tb_bit hb hk, Bool.or_eq_true, decide_eq_true_eq] at h
  exact h
/-- the kinds of a line's tokens -/
theorem lF_n {T : Tp} {k p : Nat} (h : lF T k p = none) : k ≠ 0 ∧ sK T (q1 T p) = kf k ∧ (ktw k = true → sK T (q2 T p) = ks k ∧ sK T (q3 T p) = 3) ∧ (ktw k = false → sK T (q2 T p) = 3) := by
  unfold lF at h
  by_cases h0 : k = 0
  · rw [if_pos h0] at h; cases h
  rw [if_neg h0] at h
  by_cases h1 : sK T (q1 T p) ≠ kf k
  · rw [if_pos h1] at h; cases h
  rw [if_neg h1] at h
  refine ⟨h0, Decidable.of_not_not h1, fun ht => ?_, fun ht => ?_⟩
  · rw [if_pos ht] at h
    by_cases h2 : sK T (q2 T p) ≠ ks k
    · rw [if_pos h2] at h; cases h
    rw [if_neg h2] at h
    by_cases h3 : sK T (q3 T p) ≠ 3
    · rw [if_pos h3] at h; cases h
    exact ⟨Decidable.of_not_not h2, Decidable.of_not_not h3⟩
  · rw [if_neg (by rw [ht]; decide)] at h
    by_cases h2 : sK T (q2 T p) ≠ 3
    · rw [if_pos h2] at h; cases h
    exact Decidable.of_not_not h2
theorem kS_le {T : Tp} {so p : Nat} (hso : so < 4) : kS T so p = 0 ∨ (sK T p = 1 ∧ kS T so p = sW T p ∧ kLo so ≤ sW T p ∧ sW T p ≤ kHi so) := by
  unfold kS
  by_cases h : sK T p = 1 ∧ kLo so ≤ sW T p ∧ sW T p ≤ kHi so
  · rw [if_pos h]; exact Or.inr ⟨h.1, rfl, h.2⟩
  · rw [if_neg h]; exact Or.inl rfl
theorem kS_11 {T : Tp} {so p : Nat} : kS T so p ≤ 11 := by
  have h2 : kHi so ≤ 11 := by unfold kHi; repeat' split
                              all_goals omega
  unfold kS
  split
  · rename_i h; omega
  · omega
section PAR
variable {T : Tp} {k p : Nat}
theorem pw_word {d : HD} (W : HW d) (hk : sK T (q1 T p) = 1) (hk2 : sK T (q2 T p) = 2) (hp1 : q1 T p ≤ T.1) (hp2 : q2 T p ≤ T.1) (hn : hN d < 10) (hr : rowOk T (q1 T p) 6 = true) : HW (yWord T p d) := by
  obtain ⟨r1, r2⟩ := rowOk_1 hr
  have g1 := sK_g hp1 (by omega)
  have g2 := sN_le hp2 hk2
  have g3 := sK_1 hp1 hk
  refine ⟨W.1, (show hN d + 1 ≤ 10 by omega), fun w hw => ?_, fun w hw => ?_, fun w i hw hi => ?_⟩
  · show 1 ≤ upf (hZ d) (hN d) (sZ T (q1 T p)) w ∧ upf (hZ d) (hN d) (sZ T (q1 T p)) w ≤ 6
    have hw : w < hN d + 1 := hw
    by_cases e : w = hN d
    · subst e; rw [upf_s]; omega
    · rw [upf_n _ _ e]; exact W.2.2.1 w (by omega)
  · show upf (hO d) (hN d) (sN T (q2 T p)) w ≤ 99
    have hw : w < hN d + 1 := hw
    by_cases e : w = hN d
    · subst e; rw [upf_s]; exact g2
    · rw [upf_n _ _ e]; exact W.2.2.2.1 w (by omega)
  · have hi : i < upf (hZ d) (hN d) (sZ T (q1 T p)) w := hi
    show upf (hL d) (hN d) (lts T (q1 T p)) w i < 6
    have hw : w < hN d + 1 := hw
    by_cases e : w = hN d
    · subst e
      rw [upf_s] at hi ⊢
      have := r2 i hi
      have := g3 i hi
      show T.2 (sS T (q1 T p) + i) - 97 < 6
      omega
    · rw [upf_n _ _ e] at hi ⊢
      exact W.2.2.2.2 w i (by omega) hi
theorem tY_pw {y : PS} {F : FS} (hp : p ≤ T.1) (Y : PW y) (hk : k ≤ 11) (h : lF T k p = none) (hF : (tF T k p y F).1 = 0) : PW (tY T k p y) := by
  obtain ⟨W, hf, hB', hA', cw, lw, gw⟩ := Y
  obtain ⟨k0, k1, k2, k3⟩ := lF_n h
  have b1 := (sE_b hp).2.1
  have b2 := (sE_b b1).2.1
  have b3 := (sE_b b2).2.1
  have hk : k = 1 ∨ k = 2 ∨ k = 3 ∨ k = 4 ∨ k = 5 ∨ k = 6 ∨ k = 7 ∨ k = 8 ∨ k = 9 ∨ k = 10 ∨ k = 11 := by omega
  have deed : ∀ k, 5 ≤ k → k ≤ 9 → (yC y).1 < 40 → sN T (q1 T p) ≤ 3 → (k ≤ 6 → lts T (q2 T p) 0 < 6) → CW (yDeed T k p (yC y)) := by
    intro k k5 k9 c1 c2 c3
    refine ⟨(show (yC y).1 + 1 ≤ 40 by omega), fun i hi => ?_⟩
    have hi : i < (yC y).1 + 1 := hi
    show upf (yC y).2.1 (yC y).1 (k - 5) i ≤ 4 ∧ upf (yC y).2.2.1 (yC y).1 (sN T (q1 T p)) i ≤ 3 ∧ (upf (yC y).2.1 (yC y).1 (k - 5) i ≤ 1 → ∃ l, l < 6 ∧ upf (yC y).2.2.2 (yC y).1 (if k ≤ 6 then nI (lts T (q2 T p) 0) else -1) i = nI l) ∧ (2 ≤ upf (yC y).2.1 (yC y).1 (k - 5) i → upf (yC y).2.2.2 (yC y).1 (if k ≤ 6 then nI (lts T (q2 T p) 0) else -1) i = -1)
    by_cases e : i = (yC y).1
    · rw [e, upf_s, upf_s, upf_s]
      refine ⟨by omega, c2, fun h => ⟨lts T (q2 T p) 0, c3 (by omega), by rw [if_pos (by omega)]⟩, fun h => by rw [if_neg (by omega)]⟩
    · rw [upf_n _ _ e, upf_n _ _ e, upf_n _ _ e]
      exact cw.2 i (by omega)
  rcases hk with rfl | rfl | rfl | rfl | rfl | rfl | rfl | rfl | rfl | rfl | rfl
  · obtain ⟨e1, e2, e3⟩ := nt_0 (by decide) hF
    obtain ⟨e4, e5, -⟩ := nt_0 (by decide) e1
    rw [decide_eq_true_eq] at e5
    exact ⟨pw_word W k1 (k2 rfl).1 b1 b2 e5 e2, hf, hB', hA', cw, lw, gw⟩
  · obtain ⟨e1, e2, e3⟩ := nt_0 (by decide) hF
    obtain ⟨e4, e5, -⟩ := nt_0 (by decide) e1
    rw [decide_eq_true_eq] at e2 e5
    refine ⟨W, (show max (yF y) (max (sN T (q1 T p)) (sN T (q2 T p)) + 1) ≤ 10 by omega), fun w hw => ?_, fun q hq => ⟨(hA' q hq).1, fun i hi ht => ?_⟩, cw, lw, gw⟩
    · show (∃ m, m < 2 ^ 10 ∧ upf (hB (yH y)) (sN T (q1 T p)) (hB (yH y) (sN T (q1 T p)) ||| bitI (sN T (q2 T p))) w = nI m) ∧ ∀ i, i < 31 → tb (upf (hB (yH y)) (sN T (q1 T p)) (hB (yH y) (sN T (q1 T p)) ||| bitI (sN T (q2 T p))) w) i = true → i < max (yF y) (max (sN T (q1 T p)) (sN T (q2 T p)) + 1)
      obtain ⟨⟨m, m1, m2⟩, m3⟩ := hB' w hw
      by_cases e : w = sN T (q1 T p)
      · rw [← e, upf_s, m2]
        refine ⟨bit_or m1 (by omega), fun i hi ht => ?_⟩
        rcases bit_tb (by omega) (by omega) ht with h | h
        · rw [← m2] at h; have := m3 i hi h; omega
        · omega
      · rw [upf_n _ _ e]
        exact ⟨⟨m, m1, m2⟩, fun i hi ht => by have := m3 i hi ht; omega⟩
    · show i < max (yF y) (max (sN T (q1 T p)) (sN T (q2 T p)) + 1)
      have := (hA' q hq).2 i hi ht
      omega
  · obtain ⟨e1, e2, e3⟩ := nt_0 (by decide) hF
    obtain ⟨e4, e5, -⟩ := nt_0 (by decide) e1
    rw [decide_eq_true_eq] at e2 e5
    refine ⟨W, (show max (yF y) (sN T (q2 T p) + 1) ≤ 10 by omega), fun w hw => ⟨(hB' w hw).1, fun i hi ht => ?_⟩, fun q hq => ?_, cw, lw, gw⟩
    · show i < max (yF y) (sN T (q2 T p) + 1)
      have := (hB' w hw).2 i hi ht
      omega
    · show (∃ m, m < 2 ^ 10 ∧ upf (hA (yH y)) (sN T (q1 T p)) (hA (yH y) (sN T (q1 T p)) ||| bitI (sN T (q2 T p))) q = nI m) ∧ ∀ i, i < 31 → tb (upf (hA (yH y)) (sN T (q1 T p)) (hA (yH y) (sN T (q1 T p)) ||| bitI (sN T (q2 T p))) q) i = true → i < max (yF y) (sN T (q2 T p) + 1)
      obtain ⟨⟨m, m1, m2⟩, m3⟩ := hA' q hq
      by_cases e : q = sN T (q1 T p)
      · rw [← e, upf_s, m2]
        refine ⟨bit_or m1 (by omega), fun i hi ht => ?_⟩
        rcases bit_tb (by omega) (by omega) ht with h | h
        · rw [← m2] at h; have := m3 i hi h; omega
        · omega
      · rw [upf_n _ _ e]
        exact ⟨⟨m, m1, m2⟩, fun i hi ht => by have := m3 i hi ht; omega⟩
  · obtain ⟨e1, e2, e3⟩ := nt_0 (by decide) hF
    rw [decide_eq_true_eq] at e2
    exact ⟨⟨e2, W.2⟩, hf, hB', hA', cw, lw, gw⟩
  · obtain ⟨e1, e2, e3⟩ := nt_0 (by decide) hF
    obtain ⟨e4, e5, -⟩ := nt_0 (by decide) e1
    obtain ⟨e6, e7, -⟩ := nt_0 (by decide) e4
    rw [decide_eq_true_eq] at e5 e7
    obtain ⟨r1, r2⟩ := rowOk_1 e2
    have g := sK_g (p := q2 T p) b2 (by rw [(k2 rfl).1]; decide)
    refine ⟨W, hf, hB', hA', deed 5 (by decide) (by decide) e7 e5 (fun _ => ?_), lw, gw⟩
    have := r2 0 (by omega)
    show T.2 (sS T (q2 T p) + 0) - 97 < 6
    omega
  · obtain ⟨e1, e2, e3⟩ := nt_0 (by decide) hF
    obtain ⟨e4, e5, -⟩ := nt_0 (by decide) e1
    obtain ⟨e6, e7, -⟩ := nt_0 (by decide) e4
    rw [decide_eq_true_eq] at e5 e7
    obtain ⟨r1, r2⟩ := rowOk_1 e2
    have g := sK_g (p := q2 T p) b2 (by rw [(k2 rfl).1]; decide)
    refine ⟨W, hf, hB', hA', deed 6 (by decide) (by decide) e7 e5 (fun _ => ?_), lw, gw⟩
    have := r2 0 (by omega)
    show T.2 (sS T (q2 T p) + 0) - 97 < 6
    omega
  · obtain ⟨e1, e2, e3⟩ := nt_0 (by decide) hF
    obtain ⟨e4, e5, -⟩ := nt_0 (by decide) e1
    rw [decide_eq_true_eq] at e2 e5
    exact ⟨W, hf, hB', hA', deed 7 (by decide) (by decide) e5 e2 (fun h => absurd h (by decide)), lw, gw⟩
  · obtain ⟨e1, e2, e3⟩ := nt_0 (by decide) hF
    obtain ⟨e4, e5, -⟩ := nt_0 (by decide) e1
    rw [decide_eq_true_eq] at e2 e5
    exact ⟨W, hf, hB', hA', deed 8 (by decide) (by decide) e5 e2 (fun h => absurd h (by decide)), lw, gw⟩
  · obtain ⟨e1, e2, e3⟩ := nt_0 (by decide) hF
    obtain ⟨e4, e5, -⟩ := nt_0 (by decide) e1
    rw [decide_eq_true_eq] at e2 e5
    exact ⟨W, hf, hB', hA', deed 9 (by decide) (by decide) e5 e2 (fun h => absurd h (by decide)), lw, gw⟩
  · obtain ⟨e1, e2, e3⟩ := nt_0 (by decide) hF
    obtain ⟨e4, e5, -⟩ := nt_0 (by decide) e1
    rw [decide_eq_true_eq] at e5
    obtain ⟨r1, r2⟩ := rowOk_1 e2
    have g := sK_g (p := q1 T p) b1 (by rw [k1]; decide)
    have g3 := sK_1 (p := q1 T p) b1 k1
    refine ⟨W, hf, hB', hA', cw, ⟨(show (yL y).1 + 1 ≤ 6 by omega), fun i hi => ?_⟩, gw⟩
    have hi : i < (yL y).1 + 1 := hi
    show (1 ≤ upf (yL y).2.1 (yL y).1 (sZ T (q1 T p)) i ∧ upf (yL y).2.1 (yL y).1 (sZ T (q1 T p)) i ≤ 12) ∧ ∀ j, j < upf (yL y).2.1 (yL y).1 (sZ T (q1 T p)) i → upf (yL y).2.2 (yL y).1 (lts T (q1 T p)) i j < 6
    by_cases e : i = (yL y).1
    · rw [e, upf_s, upf_s]
      refine ⟨by omega, fun j hj => ?_⟩
      have := r2 j hj
      have := g3 j hj
      show T.2 (sS T (q1 T p) + j) - 97 < 6
      omega
    · rw [upf_n _ _ e, upf_n _ _ e]
      exact lw.2 i (by omega)
  · obtain ⟨e1, e2, e3⟩ := nt_0 (by decide) hF
    obtain ⟨e4, e5, -⟩ := nt_0 (by decide) e1
    obtain ⟨e6, e7, -⟩ := nt_0 (by decide) e4
    rw [decide_eq_true_eq] at e2 e5 e7
    refine ⟨W, hf, hB', hA', cw, lw, ⟨(show (yG y).1 + 1 ≤ 8 by omega), fun i hi => ?_⟩⟩
    have hi : i < (yG y).1 + 1 := hi
    show upf (yG y).2.1 (yG y).1 (sN T (q1 T p)) i ≤ 11 ∧ upf (yG y).2.2 (yG y).1 (sN T (q2 T p)) i ≤ 9
    by_cases e : i = (yG y).1
    · rw [e, upf_s, upf_s]; exact ⟨e5, e2⟩
    · rw [upf_n _ _ e, upf_n _ _ e]; exact gw.2 i (by omega)
/-- a line takes a byte at least -/
theorem lX_g (hp : p ≤ T.1) (h : sK T p ≠ 0) : p < lX T k p ∧ lX T k p ≤ T.1 := by
  have h1 := (sK_g hp h).1
  have b1 := sE_b hp
  have b2 := sE_b b1.2.1
  have b3 := sE_b b2.2.1
  have b4 := sE_b b3.2.1
  unfold lX q3 q2
  split <;> omega
/-- faults that were seen lie ahead of p -/
def Fw (F : FS) (p : Nat) : Prop := F.1 ≠ 0 → ∃ q, q < p ∧ F.2 = nI q
theorem Fw.nt {F : FS} {c : Bool} {j q a b : Nat} (h : Fw F a) (h1 : q < b) (h2 : a ≤ b) : Fw (nt F c j q) b := by
  intro h0
  by_cases hF : F.1 = 0
  · cases c with
    | true => rw [nt_t] at h0; exact absurd hF h0
    | false => rw [nt_f hF]; exact ⟨q, h1, rfl⟩
  · rw [nt_n hF]
    obtain ⟨x, x1, x2⟩ := h hF
    exact ⟨x, by omega, x2⟩
/-- lines one behind the other: what is told, the fault -/
def prs (T : Tp) (so : Nat) : Nat → Nat → PS → FS → PS × FS
  | 0, _, y, F => (y, F)
  | m + 1, p, y, F => if sK T p = 0 then (y, F) else match lF T (kS T so p) p with
    | some q => (y, (1, nI q))
    | none => prs T so m (lX T (kS T so p) p) (tY T (kS T so p) p y) (tF T (kS T so p) p y F)
theorem prs_0 {so m : Nat} {y : PS} {F : FS} (h : sK T p = 0) : prs T so m p y F = (y, F) := by
  cases m with
  | zero => rfl
  | succ m =>
    show (if sK T p = 0 then (y, F) else _) = _
    rw [if_pos h]
theorem prs_f {so m q : Nat} {y : PS} {F : FS} (h : sK T p ≠ 0) (hl : lF T (kS T so p) p = some q) : prs T so (m + 1) p y F = (y, (1, nI q)) := by
  show (if sK T p = 0 then (y, F) else match lF T (kS T so p) p with
    | some q => (y, (1, nI q))
    | none => prs T so m (lX T (kS T so p) p) (tY T (kS T so p) p y) (tF T (kS T so p) p y F)) = _
  rw [if_neg h, hl]
theorem prs_s {so m : Nat} {y : PS} {F : FS} (h : sK T p ≠ 0) (hl : lF T (kS T so p) p = none) : prs T so (m + 1) p y F = prs T so m (lX T (kS T so p) p) (tY T (kS T so p) p y) (tF T (kS T so p) p y F) := by
  show (if sK T p = 0 then (y, F) else match lF T (kS T so p) p with
    | some q => (y, (1, nI q))
    | none => prs T so m (lX T (kS T so p) p) (tY T (kS T so p) p y) (tF T (kS T so p) p y F)) = _
  rw [if_neg h, hl]
/-- two words alike -/
def twoAl (d : HD) : Bool := anyB (fun w => anyB (fun v => decide (hZ d v = hZ d w ∧ hLcp d v w = hZ d w)) w) (hN d)
/-- the fault of a whole text -/
def pfin (T : Tp) (so : Nat) (r : PS × FS) : FS := if r.2.1 = 0 ∧ so = 0 then (if hN (yH r.1) < yF r.1 then (4, nI T.1) else if twoAl (yH r.1) = true then (5, nI T.1) else r.2) else r.2
end PAR
