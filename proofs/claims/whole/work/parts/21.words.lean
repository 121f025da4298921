/-! ===== contracts: rows of ints, bits, a hill's words ===== -/
def zb (c : Bool) : Int32 := if c = true then 1 else 0
/-- bit k of a set -/
def tb (s : Int32) (k : Nat) : Bool := decide ((s >>> (nI k &&& 31)) &&& 1 = 1)
/-- the set of those below n for which f holds -/
def bs (f : Nat → Bool) : Nat → Int32
  | 0 => 0
  | n + 1 => bs f n ||| (if f n = true then (1 : Int32) <<< (nI n &&& 31) else 0)
def zsum (f : Nat → Int32) : Nat → Int32
  | 0 => 0
  | n + 1 => zsum f n + f n
theorem zb_t : zb true = 1 := rfl
theorem zb_f : zb false = 0 := rfl
theorem zb_ne {c : Bool} : zb c ≠ 0 ↔ c = true := by cases c <;> simp [zb]
theorem zb_eq {c : Bool} : zb c = 0 ↔ c = false := by cases c <;> simp [zb]
theorem nI_nleI {a b : Nat} (h : a < b) (hb : b < 2 ^ 31) : ¬ nI b ≤ nI a := nI_ge h hb
theorem nI_m1 : (-1 : Int32) < 0 := by decide
section CW
variable {g : zG} {I : Nat → Nat → Int32} {P : Nat → Nat → Option Nat}
theorem c_got {a k n : Nat} (hk : zk g a 13) (hl : g.2.2 a = n) (hn : n < 2 ^ 31) (h : k < n) : Cl mX11_got [.ref a, .int (nI k)] (g, I, P) (some (.int (I a k))) (g, I, P) := by
  refine eX11_got (wX11_got_0 ⟨fun q => absurd q (nI_pos (by omega)), fun _ => ⟨hk, fun q => ?_, fun _ => ⟨hk, ?_, ?_, rfl⟩⟩⟩)
  · rw [hl] at q
    exact absurd q (nI_ge h hn)
  · rw [hl]; exact vp_in_nI h hn
  · rw [nI_clamp (by omega)]
/-- outside the row: 0 -/
theorem c_got0 {a : Nat} {i : Int32} (hk : zk g a 13) (h : i < 0 ∨ Int32.ofNat (g.2.2 a) ≤ i) : Cl mX11_got [.ref a, .int i] (g, I, P) (some (.int 0)) (g, I, P) := by
  refine eX11_got (wX11_got_0 ⟨fun q => ⟨rfl, rfl⟩, fun q => ⟨hk, fun _ => ⟨rfl, rfl⟩, fun q2 => ?_⟩⟩)
  rcases h with h | h
  · exact absurd h q
  · exact absurd h q2
theorem c_put {a k n : Nat} {x : Int32} (hk : zk g a 13) (hl : g.2.2 a = n) (hn : n < 2 ^ 31) (h : k < n) : Cl mX11_put [.ref a, .int (nI k), .int x] (g, I, P) none (g, zU I a k x, P) := by
  refine eX11_put (wX11_put_0 ⟨fun q => absurd q (nI_pos (by omega)), fun _ => ⟨hk, fun q => ?_, fun _ => ⟨hk, ?_, rfl, ?_⟩⟩⟩)
  · rw [hl] at q
    exact absurd q (nI_ge h hn)
  · rw [hl]; exact vp_in_nI h hn
  · rw [nI_clamp (by omega)]
theorem c_put0 {a : Nat} {i x : Int32} (hk : zk g a 13) (h : i < 0 ∨ Int32.ofNat (g.2.2 a) ≤ i) : Cl mX11_put [.ref a, .int i, .int x] (g, I, P) none (g, I, P) := by
  refine eX11_put (wX11_put_0 ⟨fun q => ⟨rfl, rfl⟩, fun q => ⟨hk, fun _ => ⟨rfl, rfl⟩, fun q2 => ?_⟩⟩)
  rcases h with h | h
  · exact absurd h q
  · exact absurd h q2
theorem c_has {s : Int32} {k : Nat} (hk : k < 31) : Cl mX11_has [.int s, .int (nI k)] (g, I, P) (some (.int (zb (tb s k)))) (g, I, P) := by
  refine eX11_has (wX11_has_0 ⟨fun q => absurd q (nI_pos (by omega)), fun _ => ⟨fun q => absurd q (nI_ge (b := 31) hk (by decide)), fun _ => ⟨fun q => ⟨?_, rfl⟩, fun q => ⟨?_, rfl⟩⟩⟩⟩)
  · simp [tb, zb, q]
  · simp [tb, zb, q]
theorem c_bit {k : Nat} (hk : k < 31) : Cl mX11_bit [.int (nI k)] (g, I, P) (some (.int ((1 : Int32) <<< (nI k &&& 31)))) (g, I, P) :=
  eX11_bit (wX11_bit_0 ⟨fun q => absurd q (nI_pos (by omega)), fun _ => ⟨fun q => absurd q (nI_ge (b := 31) hk (by decide)), fun _ => ⟨rfl, rfl⟩⟩⟩)
/-- a row comes into another of the same length -/
theorem c_copyRow {a b n : Nat} (ha : zk g a 13) (hb : zk g b 13) (hla : g.2.2 a = n) (hlb : g.2.2 b = n) (hn : n < 2 ^ 31) : Cl mX11_copyRow [.ref a, .ref b] (g, I, P) none (g, zCp I a 0 b 0 n, P) := by
  have h0 : (0 : Int32).toNatClampNeg = 0 := by decide
  have hm : zmmin (Int32.ofNat (g.2.2 a)) (Int32.ofNat (g.2.2 b)) = nI n := by rw [hla, hlb]; simp [zmmin, nI]
  refine eX11_copyRow (wX11_copyRow_0 ?_)
  rw [hm, h0, nI_clamp hn, hla, hlb]
  exact ⟨ha, hb, ha, hb, by decide, by decide, nI_pos hn, by omega, by omega, rfl, rfl⟩
end CW
/-- the data of a hill: stones, how many words, whether follows are told; size, often, follows of a word; its letters; answers of a question -/
abbrev HD : Type := Nat × Nat × Bool × (Nat → Nat) × (Nat → Nat) × (Nat → Int32) × (Nat → Nat → Nat) × (Nat → Int32)
abbrev hS (d : HD) : Nat := d.1
abbrev hN (d : HD) : Nat := d.2.1
abbrev hF (d : HD) : Bool := d.2.2.1
abbrev hZ (d : HD) : Nat → Nat := d.2.2.2.1
abbrev hO (d : HD) : Nat → Nat := d.2.2.2.2.1
abbrev hB (d : HD) : Nat → Int32 := d.2.2.2.2.2.1
abbrev hL (d : HD) : Nat → Nat → Nat := d.2.2.2.2.2.2.1
abbrev hA (d : HD) : Nat → Int32 := d.2.2.2.2.2.2.2
/-- what holds of the data of every hill that is told -/
def HW (d : HD) : Prop := (1 ≤ hS d ∧ hS d ≤ 4) ∧ hN d ≤ 10 ∧ (∀ w, w < hN d → 1 ≤ hZ d w ∧ hZ d w ≤ 6) ∧ (∀ w, w < hN d → hO d w ≤ 99) ∧ (∀ w k, w < hN d → k < hZ d w → hL d w k < 6)
/-- the shape of a Hill at a -/
def HlS (g : zG) (P : Nat → Nat → Option Nat) (a : Nat) : Prop :=
  zk g a 3 ∧ (zk g (a + 1) 13 ∧ zk g (a + 2) 13 ∧ zk g (a + 3) 13 ∧ zk g (a + 4) 13 ∧ zk g (a + 5) 13) ∧ (g.2.2 (a + 1) = 10 ∧ g.2.2 (a + 2) = 10 ∧ g.2.2 (a + 3) = 10 ∧ g.2.2 (a + 4) = 60 ∧ g.2.2 (a + 5) = 6) ∧ P a 4 = some (a + 1) ∧ P a 5 = some (a + 2) ∧ P a 6 = some (a + 3) ∧ P a 7 = some (a + 4) ∧ P a 8 = some (a + 5)
/-- the Hill at a holds the data d -/
def HlD (I : Nat → Nat → Int32) (a : Nat) (d : HD) : Prop :=
  I a 0 = nI (hS d) ∧ I a 1 = nI (hN d) ∧ I a 2 = zb (hF d) ∧ (∀ w, w < hN d → I (a + 1) w = nI (hZ d w)) ∧ (∀ w, w < hN d → I (a + 2) w = nI (hO d w)) ∧ (∀ w, w < hN d → I (a + 3) w = hB d w) ∧ (∀ w k, w < hN d → k < hZ d w → I (a + 4) (6 * w + k) = nI (hL d w k)) ∧ (∀ q, q < 6 → I (a + 5) q = hA d q)
/-- all words -/
def hAll (d : HD) : Int32 := ((1 : Int32) <<< (nI (hN d) &&& 31)) - 1
/-- words that may come behind one -/
def hBeh (d : HD) (w : Nat) : Int32 := if hF d = true then hB d w else hAll d
/-- with how many letters from i on, m at most, two rows go on alike -/
def lcp (f h : Nat → Nat) : Nat → Nat → Nat
  | 0, i => i
  | m + 1, i => if f i = h i then lcp f h m (i + 1) else i
def hLcp (d : HD) (a b : Nat) : Nat := lcp (hL d a) (hL d b) (min (hZ d a) (hZ d b)) 0
section CH
variable {g : zG} {I : Nat → Nat → Int32} {P : Nat → Nat → Option Nat} {a : Nat} {d : HD}
theorem c_sizeOf {w : Nat} (S : HlS g P a) (W : HW d) (D : HlD I a d) (hw : w < hN d) : Cl mX3_sizeOf [.ref a, .int (nI w)] (g, I, P) (some (.int (nI (hZ d w)))) (g, I, P) := by
  rw [← D.2.2.2.1 w hw]
  exact eX3_sizeOf (wX3_sizeOf_0 ⟨S.1, _, S.2.2.2.1, _, c_got S.2.1.1 S.2.2.1.1 (by decide) (Nat.lt_of_lt_of_le hw W.2.1), rfl, rfl⟩)
theorem c_oftenOf {w : Nat} (S : HlS g P a) (W : HW d) (D : HlD I a d) (hw : w < hN d) : Cl mX3_oftenOf [.ref a, .int (nI w)] (g, I, P) (some (.int (nI (hO d w)))) (g, I, P) := by
  rw [← D.2.2.2.2.1 w hw]
  exact eX3_oftenOf (wX3_oftenOf_0 ⟨S.1, _, S.2.2.2.2.1, _, c_got S.2.1.2.1 S.2.2.1.2.1 (by decide) (Nat.lt_of_lt_of_le hw W.2.1), rfl, rfl⟩)
theorem c_letterOf {w k : Nat} (S : HlS g P a) (W : HW d) (D : HlD I a d) (hw : w < hN d) (hk : k < hZ d w) : Cl mX3_letterOf [.ref a, .int (nI w), .int (nI k)] (g, I, P) (some (.int (nI (hL d w k)))) (g, I, P) := by
  have h1 := W.2.1
  have h2 := (W.2.2.1 w hw).2
  have e : nI w * 6 + nI k = nI (6 * w + k) := by
    rw [show (6 : Int32) = nI 6 from rfl, pk_mul, nI_add, Nat.mul_comm]
  rw [← D.2.2.2.2.2.2.1 w k hw hk]
  refine eX3_letterOf (wX3_letterOf_0 ⟨S.1, _, S.2.2.2.2.2.2.1, _, ?_, rfl, rfl⟩)
  rw [e]
  exact c_got S.2.1.2.2.2.1 S.2.2.1.2.2.2.1 (by decide) (by omega)
theorem c_hasWord {x : Int32} (S : HlS g P a) (D : HlD I a d) : Cl mX3_hasWord [.ref a, .int x] (g, I, P) (some (.int (zb (decide (¬ x < 0 ∧ x < nI (hN d)))))) (g, I, P) := by
  refine eX3_hasWord (wX3_hasWord_0 ⟨fun q => ⟨?_, rfl⟩, fun q => ⟨S.1, fun q2 => ⟨?_, rfl⟩, fun q2 => ⟨?_, rfl⟩⟩⟩)
  · simp [q, zb]
  · rw [D.2.1] at q2
    have : ¬ x < nI (hN d) := Int32.not_lt.mpr q2
    simp [this, zb]
  · rw [D.2.1] at q2
    have : x < nI (hN d) := Int32.not_le.mp q2
    simp [this, q, zb]
theorem c_all (S : HlS g P a) (D : HlD I a d) : Cl mX3_all [.ref a] (g, I, P) (some (.int (hAll d))) (g, I, P) := by
  refine eX3_all (wX3_all_0 ⟨S.1, ?_, rfl⟩)
  rw [D.2.1]
  rfl
theorem c_behind {w : Nat} (S : HlS g P a) (W : HW d) (D : HlD I a d) (hw : w < hN d) : Cl mX3_behind [.ref a, .int (nI w)] (g, I, P) (some (.int (hBeh d w))) (g, I, P) := by
  have h1 := W.2.1
  refine eX3_behind (wX3_behind_0 ⟨S.1, fun q => ⟨S.1, _, c_all S D, ?_, rfl⟩, fun q => ⟨fun q2 => ?_, fun _ => ⟨S.1, _, S.2.2.2.2.2.1, _, c_got S.2.1.2.2.1 S.2.2.1.2.2.1 (by decide) (by omega), ?_, rfl⟩⟩⟩)
  · rw [D.2.2.1, zb_eq] at q
    simp [hBeh, q]
  · exact absurd (q2 ▸ nI_m1) (nI_pos (n := w) (by omega))
  · rw [D.2.2.1, ← ne_eq, zb_ne] at q
    simp [hBeh, q, D.2.2.2.2.2.1 w hw]
theorem c_behind0 (S : HlS g P a) (D : HlD I a d) : Cl mX3_behind [.ref a, .int (-1)] (g, I, P) (some (.int (hAll d))) (g, I, P) :=
  eX3_behind (wX3_behind_0 ⟨S.1, fun _ => ⟨S.1, _, c_all S D, rfl, rfl⟩, fun _ => ⟨fun _ => ⟨S.1, _, c_all S D, rfl, rfl⟩, fun q => absurd rfl q⟩⟩)
theorem c_oftenOfAll {s : Int32} (S : HlS g P a) (W : HW d) (D : HlD I a d) : Cl mX3_oftenOfAll [.ref a, .int s] (g, I, P) (some (.int (zsum (fun w => if tb s w = true then nI (hO d w) else 0) (hN d)))) (g, I, P) := by
  have h1 := W.2.1
  refine eX3_oftenOfAll (wX3_oftenOfAll_0 ?_)
  have key : ∀ m k, k + m = hN d → Zt none mX3_oftenOfAll 0 0 4 [(0, .ref a), (1, .int s), (2, .int (zsum (fun w => if tb s w = true then nI (hO d w) else 0) k)), (3, .int (nI k))] [] (g, I, P) (some (.int (zsum (fun w => if tb s w = true then nI (hO d w) else 0) (hN d)))) (g, I, P) := by
    intro m
    induction m with
    | zero =>
      intro k hk
      have hk : k = hN d := hk
      subst hk
      exact wX3_oftenOfAll_4 ⟨S.1, fun _ => ⟨rfl, rfl⟩, fun q => absurd (by rw [D.2.1]; exact Int32.le_refl _) q⟩
    | succ m ih =>
      intro k hk
      have hk2 : k < hN d := by omega
      have ih := ih (k + 1) (by omega)
      refine wX3_oftenOfAll_4 ⟨S.1, fun q => ?_, fun _ => ⟨_, c_has (by omega), fun q => ?_, fun q => ⟨S.1, _, c_oftenOf S W D hk2, ?_⟩⟩⟩
      · rw [D.2.1] at q
        exact absurd q (nI_ge hk2 (by omega))
      · rw [zb_eq] at q
        simpa [zsum, q, nI_1] using ih
      · rw [← ne_eq, zb_ne] at q
        simpa [zsum, q, nI_1] using ih
  exact key (hN d) 0 (by omega)
theorem lcp_le (f h : Nat → Nat) : ∀ m i, i ≤ lcp f h m i ∧ lcp f h m i ≤ i + m := by
  intro m
  induction m with
  | zero => intro i; simp [lcp]
  | succ m ih =>
    intro i
    simp only [lcp]
    split
    · have := ih (i + 1); omega
    · omega
theorem c_lcp {v w : Nat} (S : HlS g P a) (W : HW d) (D : HlD I a d) (hv : v < hN d) (hw : w < hN d) : Cl mX3_sameLettersAtFirst [.ref a, .int (nI v), .int (nI w)] (g, I, P) (some (.int (nI (hLcp d v w)))) (g, I, P) := by
  have z1 := W.2.2.1 v hv
  have z2 := W.2.2.1 w hw
  have hmin : zmmin (nI (hZ d v)) (nI (hZ d w)) = nI (min (hZ d v) (hZ d w)) := by
    unfold zmmin
    by_cases hq : hZ d w < hZ d v
    · rw [if_pos (nI_lt hq (by omega)), Nat.min_eq_right (by omega)]
    · rw [if_neg (nI_nlt (by omega) (by omega)), Nat.min_eq_left (by omega)]
  refine eX3_sameLettersAtFirst (wX3_sameLettersAtFirst_0 ⟨S.1, _, c_sizeOf S W D hv, S.1, _, c_sizeOf S W D hw, ?_⟩)
  rw [hmin]
  have key : ∀ m i, i + m = min (hZ d v) (hZ d w) → Zt none mX3_sameLettersAtFirst 0 0 17 [(0, .ref a), (1, .int (nI v)), (2, .int (nI w)), (3, .int (nI (min (hZ d v) (hZ d w)))), (4, .int (nI i))] [] (g, I, P) (some (.int (nI (lcp (hL d v) (hL d w) m i)))) (g, I, P) := by
    intro m
    induction m with
    | zero =>
      intro i hi
      have hi : i = min (hZ d v) (hZ d w) := hi
      subst hi
      exact wX3_sameLettersAtFirst_17 ⟨fun _ => ⟨rfl, rfl⟩, fun q => absurd (Int32.le_refl _) q⟩
    | succ m ih =>
      intro i hi
      have ih := ih (i + 1) (by omega)
      have l1 := W.2.2.2.2 v i hv (by omega)
      have l2 := W.2.2.2.2 w i hw (by omega)
      refine wX3_sameLettersAtFirst_17 ⟨fun q => absurd q (nI_ge (by omega) (by omega)), fun _ => ⟨S.1, _, c_letterOf S W D hv (by omega), S.1, _, c_letterOf S W D hw (by omega), fun q => ?_, fun q => ?_⟩⟩
      · rw [nI_eq (by omega) (by omega)] at q
        simp [lcp, q]
      · rw [nI_eq (by omega) (by omega)] at q
        simpa [lcp, q, nI_1] using ih
  exact key _ 0 (by omega)
end CH
