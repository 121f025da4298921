/-! ===== the abstract state, and what the class's and the reference's heaps hold of it ===== -/
/-- a century: how many deeds; kind, stone, letter of each -/
abbrev CD : Type := Nat × (Nat → Nat) × (Nat → Nat) × (Nat → Int32)
/-- lines: how many; the size of each; its letters -/
abbrev LD : Type := Nat × (Nat → Nat) × (Nat → Nat → Nat)
/-- a log: how many facts; place, depth of each -/
abbrev GD : Type := Nat × (Nat → Nat) × (Nat → Nat)
/-- all that is told: the tape (length, bytes); fault, place; hills, centuries, lines, logs (how many, which) -/
abbrev TD : Type := (Nat × (Nat → Int32)) × (Int32 × Int32) × (Nat × (Nat → HD)) × (Nat × (Nat → CD)) × (Nat × (Nat → LD)) × (Nat × (Nat → GD))
abbrev tLen (t : TD) : Nat := t.1.1
abbrev tByte (t : TD) : Nat → Int32 := t.1.2
abbrev tFault (t : TD) : Int32 := t.2.1.1
abbrev tPlace (t : TD) : Int32 := t.2.1.2
abbrev tNh (t : TD) : Nat := t.2.2.1.1
abbrev tH (t : TD) : Nat → HD := t.2.2.1.2
abbrev tNc (t : TD) : Nat := t.2.2.2.1.1
abbrev tC (t : TD) : Nat → CD := t.2.2.2.1.2
abbrev tNl (t : TD) : Nat := t.2.2.2.2.1.1
abbrev tL (t : TD) : Nat → LD := t.2.2.2.2.1.2
abbrev tNg (t : TD) : Nat := t.2.2.2.2.2.1
abbrev tG (t : TD) : Nat → GD := t.2.2.2.2.2.2
def CW (c : CD) : Prop := c.1 ≤ 40 ∧ ∀ k, k < c.1 → c.2.1 k ≤ 4 ∧ c.2.2.1 k ≤ 3 ∧ (c.2.1 k ≤ 1 → ∃ l, l < 6 ∧ c.2.2.2 k = nI l) ∧ (2 ≤ c.2.1 k → c.2.2.2 k = -1)
def LW (l : LD) : Prop := l.1 ≤ 6 ∧ ∀ k, k < l.1 → (1 ≤ l.2.1 k ∧ l.2.1 k ≤ 12) ∧ ∀ i, i < l.2.1 k → l.2.2 k i < 6
def GW (q : GD) : Prop := q.1 ≤ 8 ∧ ∀ k, k < q.1 → q.2.1 k ≤ 11 ∧ q.2.2 k ≤ 9
/-- two words of a hill are never alike; bits are of its words -/
def HX (d : HD) : Prop := (∀ v w, v < hN d → w < hN d → v ≠ w → ¬ (hZ d v = hZ d w ∧ hLcp d v w = hZ d v)) ∧ (∀ w, w < hN d → ∀ k, k < 31 → tb (hB d w) k = true → k < hN d) ∧ (∀ q, q < 6 → ∀ k, k < 31 → tb (hA d q) k = true → k < hN d) ∧ (∀ w, w < hN d → ∃ n, n < 2 ^ 10 ∧ hB d w = nI n) ∧ ∀ q, q < 6 → ∃ n, n < 2 ^ 10 ∧ hA d q = nI n
def TW (t : TD) : Prop := (tLen t ≤ 600 ∧ ∀ k, k < tLen t → ∃ b, b < 256 ∧ tByte t k = nI b) ∧ (tNh t ≤ 2 ∧ ∀ i, i < tNh t → HW (tH t i) ∧ HX (tH t i)) ∧ (tNc t ≤ 2 ∧ ∀ i, i < tNc t → CW (tC t i)) ∧ (tNl t ≤ 2 ∧ ∀ i, i < tNl t → LW (tL t i)) ∧ (tNg t ≤ 2 ∧ ∀ i, i < tNg t → GW (tG t i))
/-! the class -/
def CnS (g : zG) (P : Nat → Nat → Option Nat) (a : Nat) : Prop := zk g a 0 ∧ (zk g (a + 1) 13 ∧ zk g (a + 2) 13 ∧ zk g (a + 3) 13) ∧ (g.2.2 (a + 1) = 40 ∧ g.2.2 (a + 2) = 40 ∧ g.2.2 (a + 3) = 40) ∧ P a 1 = some (a + 1) ∧ P a 2 = some (a + 2) ∧ P a 3 = some (a + 3)
def LnS (g : zG) (P : Nat → Nat → Option Nat) (a : Nat) : Prop := zk g a 4 ∧ (zk g (a + 1) 13 ∧ zk g (a + 2) 13) ∧ (g.2.2 (a + 1) = 6 ∧ g.2.2 (a + 2) = 72) ∧ P a 1 = some (a + 1) ∧ P a 2 = some (a + 2)
def LgS (g : zG) (P : Nat → Nat → Option Nat) (a : Nat) : Prop := zk g a 5 ∧ (zk g (a + 1) 13 ∧ zk g (a + 2) 13) ∧ (g.2.2 (a + 1) = 8 ∧ g.2.2 (a + 2) = 8) ∧ P a 1 = some (a + 1) ∧ P a 2 = some (a + 2)
def CnD (I : Nat → Nat → Int32) (a : Nat) (c : CD) : Prop := I a 0 = nI c.1 ∧ ∀ k, k < c.1 → I (a + 1) k = nI (c.2.1 k) ∧ I (a + 2) k = nI (c.2.2.1 k) ∧ I (a + 3) k = c.2.2.2 k
def LnD (I : Nat → Nat → Int32) (a : Nat) (l : LD) : Prop := I a 0 = nI l.1 ∧ ∀ k, k < l.1 → I (a + 1) k = nI (l.2.1 k) ∧ ∀ i, i < l.2.1 k → I (a + 2) (12 * k + i) = nI (l.2.2 k i)
def LgD (I : Nat → Nat → Int32) (a : Nat) (q : GD) : Prop := I a 0 = nI q.1 ∧ ∀ k, k < q.1 → I (a + 1) k = nI (q.2.1 k) ∧ I (a + 2) k = nI (q.2.2 k)
/-- the shape of a Told at a -/
def TlS (g : zG) (P : Nat → Nat → Option Nat) (a : Nat) : Prop :=
  zk g a 9 ∧ (zk g (a + 1) 13 ∧ zk g (a + 2) 13 ∧ zk g (a + 3) 16 ∧ zk g (a + 4) 15 ∧ zk g (a + 5) 17 ∧ zk g (a + 6) 18) ∧ (g.2.2 (a + 1) = 600 ∧ g.2.2 (a + 2) = 4 ∧ g.2.2 (a + 3) = 2 ∧ g.2.2 (a + 4) = 2 ∧ g.2.2 (a + 5) = 2 ∧ g.2.2 (a + 6) = 2) ∧ (P a 0 = some (a + 1) ∧ P a 4 = some (a + 2) ∧ P a 5 = some (a + 3) ∧ P a 6 = some (a + 4) ∧ P a 7 = some (a + 5) ∧ P a 8 = some (a + 6)) ∧ ∀ i, i < 2 → (P (a + 3) i = some (a + 7 + 16 * i) ∧ HlS g P (a + 7 + 16 * i)) ∧ (P (a + 4) i = some (a + 13 + 16 * i) ∧ CnS g P (a + 13 + 16 * i)) ∧ (P (a + 5) i = some (a + 17 + 16 * i) ∧ LnS g P (a + 17 + 16 * i)) ∧ (P (a + 6) i = some (a + 20 + 16 * i) ∧ LgS g P (a + 20 + 16 * i))
/-- the Told at a holds t -/
def TlD (I : Nat → Nat → Int32) (a : Nat) (t : TD) : Prop :=
  (I a 1 = nI (tLen t) ∧ I a 2 = tFault t ∧ I a 3 = tPlace t ∧ ∀ k, k < tLen t → I (a + 1) k = tByte t k) ∧ (I (a + 2) 0 = nI (tNh t) ∧ I (a + 2) 1 = nI (tNc t) ∧ I (a + 2) 2 = nI (tNl t) ∧ I (a + 2) 3 = nI (tNg t)) ∧ (∀ i, i < tNh t → HlD I (a + 7 + 16 * i) (tH t i)) ∧ (∀ i, i < tNc t → CnD I (a + 13 + 16 * i) (tC t i)) ∧ (∀ i, i < tNl t → LnD I (a + 17 + 16 * i) (tL t i)) ∧ ∀ i, i < tNg t → LgD I (a + 20 + 16 * i) (tG t i)
/-! the reference: its row holds t from o on -/
def McA (I : Nat → Nat → Int32) (o : Nat) (c : CD) : Prop := I 96 o = nI c.1 ∧ ∀ k, k < c.1 → I 96 (o + 1 + 3 * k) = nI (c.2.1 k) ∧ I 96 (o + 1 + 3 * k + 1) = nI (c.2.2.1 k) ∧ I 96 (o + 1 + 3 * k + 2) = c.2.2.2 k
def MlA (I : Nat → Nat → Int32) (o : Nat) (l : LD) : Prop := I 96 o = nI l.1 ∧ ∀ k, k < l.1 → I 96 (o + 1 + 13 * k) = nI (l.2.1 k) ∧ ∀ i, i < l.2.1 k → I 96 (o + 1 + 13 * k + 1 + i) = nI (l.2.2 k i)
def MgA (I : Nat → Nat → Int32) (o : Nat) (q : GD) : Prop := I 96 o = nI q.1 ∧ ∀ k, k < q.1 → I 96 (o + 1 + 2 * k) = nI (q.2.1 k) ∧ I 96 (o + 1 + 2 * k + 1) = nI (q.2.2 k)
def MtA (I : Nat → Nat → Int32) (o : Nat) (t : TD) : Prop :=
  (I 96 (o + 4) = nI (tLen t) ∧ I 96 (o + 5) = tFault t ∧ I 96 (o + 6) = tPlace t ∧ ∀ k, k < tLen t → I 96 (o + 10 + k) = tByte t k) ∧ (I 96 o = nI (tNh t) ∧ I 96 (o + 1) = nI (tNc t) ∧ I 96 (o + 2) = nI (tNl t) ∧ I 96 (o + 3) = nI (tNg t)) ∧ (∀ i, i < tNh t → MhA I (o + 610 + 99 * i) (tH t i)) ∧ (∀ i, i < tNc t → McA I (o + 808 + 121 * i) (tC t i)) ∧ (∀ i, i < tNl t → MlA I (o + 1050 + 79 * i) (tL t i)) ∧ ∀ i, i < tNg t → MgA I (o + 1208 + 17 * i) (tG t i)
/-- the images: none, or a Told beyond the first cells, apart from the others; and the reference's -/
def ImC (g : zG) (I : Nat → Nat → Int32) (P : Nat → Nat → Option Nat) (im : Nat → Option TD) : Prop :=
  (∀ k, k < 3 → im k = none → P 40 k = none) ∧ (∀ k t, k < 3 → im k = some t → ∃ a, P 40 k = some a ∧ 114 ≤ a ∧ a + 39 ≤ g.1 ∧ TlS g P a ∧ TlD I a t ∧ TW t) ∧ ∀ j k a b, j < 3 → k < 3 → j ≠ k → P 40 j = some a → P 40 k = some b → a + 39 ≤ b ∨ b + 39 ≤ a
def ImM (I : Nat → Nat → Int32) (im : Nat → Option TD) : Prop := ∀ k, k < 3 → I 97 k = zb (im k).isSome ∧ ∀ t, im k = some t → MtA I (1242 * (k + 1)) t
/-- a boolean of every Hill that is kept: 0 or 1, told or not -/
def Bo (I : Nat → Nat → Int32) (P : Nat → Nat → Option Nat) : Prop := ((I 8 2 = 0 ∨ I 8 2 = 1) ∧ (I 24 2 = 0 ∨ I 24 2 = 1)) ∧ ∀ k a, k < 3 → P 40 k = some a → (I (a + 7) 2 = 0 ∨ I (a + 7) 2 = 1) ∧ (I (a + 23) 2 = 0 ∨ I (a + 23) 2 = 1)
/-- THE INVARIANT of the law's loop -/
def LI (g : zG) (I : Nat → Nat → Int32) (P : Nat → Nat → Option Nat) (t : TD) (im : Nat → Option TD) : Prop := Sg g ∧ Sp P ∧ TW t ∧ TlD I 1 t ∧ MtA I 0 t ∧ ImC g I P im ∧ ImM I im ∧ Bo I P
/-- what a question of the class may change: the cells 41 .. 94, and there no reference that never changes -/
def Kp (I I' : Nat → Nat → Int32) : Prop := ∀ a, (a < 41 ∨ 95 ≤ a) → I' a = I a
def KpP (P P' : Nat → Nat → Option Nat) : Prop := (∀ a, (a < 41 ∨ 95 ≤ a) → P' a = P a) ∧ Sp P'
/-- what a question of the reference may change: 95, 98 .. 113 -/
def Km (I I' : Nat → Nat → Int32) : Prop := ∀ a, (a < 95 ∨ a = 96 ∨ a = 97 ∨ 114 ≤ a) → I' a = I a
/-- the two together -/
def Ka (I I' : Nat → Nat → Int32) : Prop := ∀ a, (a < 41 ∨ a = 96 ∨ a = 97 ∨ 114 ≤ a) → I' a = I a
theorem Kp.rf (I : Nat → Nat → Int32) : Kp I I := fun _ _ => rfl
theorem Km.rf (I : Nat → Nat → Int32) : Km I I := fun _ _ => rfl
theorem Kp.tr {I J K : Nat → Nat → Int32} (a : Kp I J) (b : Kp J K) : Kp I K := fun x h => (b x h).trans (a x h)
theorem Km.tr {I J K : Nat → Nat → Int32} (a : Km I J) (b : Km J K) : Km I K := fun x h => (b x h).trans (a x h)
theorem KpP.rf {P : Nat → Nat → Option Nat} (S : Sp P) : KpP P P := ⟨fun _ _ => rfl, S⟩
theorem KpP.tr {P Q R : Nat → Nat → Option Nat} (a : KpP P Q) (b : KpP Q R) : KpP P R := ⟨fun x h => (b.1 x h).trans (a.1 x h), b.2⟩
theorem Kp.a {I J : Nat → Nat → Int32} (a : Kp I J) : Ka I J := fun x h => a x (by omega)
theorem Km.a {I J : Nat → Nat → Int32} (a : Km I J) : Ka I J := fun x h => a x (by omega)
section KEEP
variable {g : zG} {I J : Nat → Nat → Int32} {P R : Nat → Nat → Option Nat}
theorem HlD.keep {a : Nat} {d : HD} (h : HlD I a d) (e : ∀ j, j < 6 → J (a + j) = I (a + j)) : HlD J a d := by
  unfold HlD at h ⊢
  rw [show J a = I a from e 0 (by decide), e 1 (by decide), e 2 (by decide), e 3 (by decide), e 4 (by decide), e 5 (by decide)]
  exact h
theorem CnD.keep {a : Nat} {d : CD} (h : CnD I a d) (e : ∀ j, j < 4 → J (a + j) = I (a + j)) : CnD J a d := by
  unfold CnD at h ⊢
  rw [show J a = I a from e 0 (by decide), e 1 (by decide), e 2 (by decide), e 3 (by decide)]
  exact h
theorem LnD.keep {a : Nat} {d : LD} (h : LnD I a d) (e : ∀ j, j < 3 → J (a + j) = I (a + j)) : LnD J a d := by
  unfold LnD at h ⊢
  rw [show J a = I a from e 0 (by decide), e 1 (by decide), e 2 (by decide)]
  exact h
theorem LgD.keep {a : Nat} {d : GD} (h : LgD I a d) (e : ∀ j, j < 3 → J (a + j) = I (a + j)) : LgD J a d := by
  unfold LgD at h ⊢
  rw [show J a = I a from e 0 (by decide), e 1 (by decide), e 2 (by decide)]
  exact h
theorem TlD.keep {a : Nat} {t : TD} (W : TW t) (h : TlD I a t) (e : ∀ j, j < 39 → J (a + j) = I (a + j)) : TlD J a t := by
  obtain ⟨h1, h2, h3, h4, h5, h6⟩ := h
  refine ⟨?_, ?_, fun i hi => ?_, fun i hi => ?_, fun i hi => ?_, fun i hi => ?_⟩
  · rw [show J a = I a from e 0 (by decide), e 1 (by decide)]; exact h1
  · rw [e 2 (by decide)]; exact h2
  · have := W.2.1.1; exact (h3 i hi).keep (fun j hj => by rw [Nat.add_assoc, Nat.add_assoc]; exact e _ (by omega))
  · have := W.2.2.1.1; exact (h4 i hi).keep (fun j hj => by rw [Nat.add_assoc, Nat.add_assoc]; exact e _ (by omega))
  · have := W.2.2.2.1.1; exact (h5 i hi).keep (fun j hj => by rw [Nat.add_assoc, Nat.add_assoc]; exact e _ (by omega))
  · have := W.2.2.2.2.1; exact (h6 i hi).keep (fun j hj => by rw [Nat.add_assoc, Nat.add_assoc]; exact e _ (by omega))
theorem HlS.keep {a : Nat} (h : HlS g P a) (e : R a = P a) : HlS g R a := by
  unfold HlS at h ⊢; rw [e]; exact h
theorem CnS.keep {a : Nat} (h : CnS g P a) (e : R a = P a) : CnS g R a := by
  unfold CnS at h ⊢; rw [e]; exact h
theorem LnS.keep {a : Nat} (h : LnS g P a) (e : R a = P a) : LnS g R a := by
  unfold LnS at h ⊢; rw [e]; exact h
theorem LgS.keep {a : Nat} (h : LgS g P a) (e : R a = P a) : LgS g R a := by
  unfold LgS at h ⊢; rw [e]; exact h
theorem TlS.keep {a : Nat} (h : TlS g P a) (e : ∀ j, j < 39 → R (a + j) = P (a + j)) : TlS g R a := by
  obtain ⟨h1, h2, h3, h4, h5⟩ := h
  refine ⟨h1, h2, h3, ?_, fun i hi => ?_⟩
  · rw [show R a = P a from e 0 (by decide)]; exact h4
  · obtain ⟨⟨a1, a2⟩, ⟨b1, b2⟩, ⟨c1, c2⟩, d1, d2⟩ := h5 i hi
    refine ⟨⟨by rw [e 3 (by decide)]; exact a1, a2.keep (by rw [Nat.add_assoc]; exact e _ (by omega))⟩, ⟨by rw [e 4 (by decide)]; exact b1, b2.keep (by rw [Nat.add_assoc]; exact e _ (by omega))⟩, ⟨by rw [e 5 (by decide)]; exact c1, c2.keep (by rw [Nat.add_assoc]; exact e _ (by omega))⟩, by rw [e 6 (by decide)]; exact d1, d2.keep (by rw [Nat.add_assoc]; exact e _ (by omega))⟩
theorem MtA.keep {o : Nat} {t : TD} (h : MtA I o t) (e : J 96 = I 96) : MtA J o t := by
  unfold MtA MhA McA MlA MgA at h ⊢
  rw [e]; exact h
theorem ImC.at {im : Nat → Option TD} (h : ImC g I P im) {k a : Nat} (hk : k < 3) (hp : P 40 k = some a) : ∃ t, im k = some t ∧ 114 ≤ a ∧ a + 39 ≤ g.1 ∧ TlS g P a ∧ TlD I a t ∧ TW t := by
  cases hi : im k with
  | none => rw [h.1 k hk hi] at hp; cases hp
  | some t =>
    obtain ⟨x, x1, x2⟩ := h.2.1 k t hk hi
    rw [hp] at x1; cases x1
    exact ⟨t, rfl, x2⟩
/-- questions leave the invariant -/
theorem LI.keep {t : TD} {im : Nat → Option TD} (h : LI g I P t im) (a : Ka I J) (b : KpP P R) : LI g J R t im := by
  obtain ⟨h1, h2, h3, h4, h5, h6, h7, h8⟩ := h
  refine ⟨h1, b.2, h3, h4.keep h3 (fun j hj => a _ (by omega)), h5.keep (a 96 (by omega)), ⟨fun k hk hn => ?_, fun k t hk ht => ?_, fun j k x y hj hk hjk hx hy => ?_⟩, fun k hk => ?_, ?_, fun k x hk hx => ?_⟩
  · rw [b.1 40 (by omega)]; exact h6.1 k hk hn
  · obtain ⟨x, x1, x2, x3, x4, x5, x6⟩ := h6.2.1 k t hk ht
    exact ⟨x, by rw [b.1 40 (by omega)]; exact x1, x2, x3, x4.keep (fun j hj => b.1 _ (by omega)), x5.keep x6 (fun j hj => a _ (by omega)), x6⟩
  · rw [b.1 40 (by omega)] at hx hy
    exact h6.2.2 j k x y hj hk hjk hx hy
  · refine ⟨?_, fun t ht => ?_⟩
    · rw [a 97 (by omega)]; exact (h7 k hk).1
    · exact ((h7 k hk).2 t ht).keep (a 96 (by omega))
  · rw [a 8 (by omega), a 24 (by omega)]; exact h8.1
  · rw [b.1 40 (by omega)] at hx
    obtain ⟨_, _, hge, _⟩ := h6.at hk hx
    rw [a (x + 7) (by omega), a (x + 23) (by omega)]; exact h8.2 k x hk hx
end KEEP
