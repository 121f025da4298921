/-! ===== Rules: how many facts are so, by start and pace ===== -/
def gp (p : Nat) : Nat := p / 90 + 1
def wr (p : Nat) : Nat := p / 10 % 9 + 1
def sn (p : Nat) : Nat := p % 10
def lsv (q : GD) (p k : Nat) : Nat := ((gLast q q.1 - q.2.1 k) * gp p + sn p) / wr p
def soB (q : GD) (s p k : Nat) : Bool := decide (s - lsv q p k = q.2.2 k)
def htn (q : GD) (s p n : Nat) : Nat := nsum (fun k => if soB q s p k = true then 1 else 0) n
def ht (q : GD) (s p : Nat) : Nat := htn q s p q.1
def mxs (q : GD) (p : Nat) : Nat := mx (fun s => decide (1 ≤ s)) (fun s => ht q s p) 10
def MM (q : GD) : Nat := mx (fun _ => true) (mxs q) 810
def fitB (q : GD) (s p : Nat) : Bool := decide (1 ≤ s) && decide (ht q s p = MM q)
/-- the places of facts that aren't so -/
def msn (q : GD) (s p : Nat) : Nat → Int32
  | 0 => 0
  | k + 1 => if soB q s p k = true then msn q s p k else msn q s p k ||| (1 : Int32) <<< (nI (q.2.1 k) &&& 31)
def yr (q : GD) (p : Nat) : Nat := gLast q q.1 * gp p + sn p
theorem gLast_ge {q : GD} : ∀ n k, k < n → q.2.1 k ≤ gLast q n := by
  intro n
  induction n with
  | zero => intro k hk; omega
  | succ n ih =>
    intro k hk
    show _ ≤ max (gLast q n) (q.2.1 n)
    by_cases e : k = n
    · subst e; omega
    · have := ih k (by omega); omega
theorem gp_le {p : Nat} (hp : p < 810) : 1 ≤ gp p ∧ gp p ≤ 9 := by unfold gp; omega
theorem wr_le (p : Nat) : 1 ≤ wr p ∧ wr p ≤ 9 := by unfold wr; omega
theorem sn_le (p : Nat) : sn p ≤ 9 := by unfold sn; omega
theorem lsv_le {q : GD} {p k : Nat} (W : GW q) (hp : p < 810) : (gLast q q.1 - q.2.1 k) * gp p + sn p ≤ 108 ∧ lsv q p k ≤ 108 := by
  have h1 := gLast_le W q.1 (Nat.le_refl _)
  have h2 := gp_le hp
  have h3 := sn_le p
  have h4 : (gLast q q.1 - q.2.1 k) * gp p ≤ 11 * 9 := Nat.mul_le_mul (by omega) h2.2
  refine ⟨by omega, Nat.le_trans (Nat.div_le_self _ _) (by omega)⟩
theorem yr_le {q : GD} {p : Nat} (W : GW q) (hp : p < 810) : yr q p ≤ 108 := by
  have h1 := gLast_le W q.1 (Nat.le_refl _)
  have h2 := gp_le hp
  have h3 := sn_le p
  have h4 : gLast q q.1 * gp p ≤ 11 * 9 := Nat.mul_le_mul h1 h2.2
  show gLast q q.1 * gp p + sn p ≤ 108
  omega
theorem htn_le (q : GD) (s p n : Nat) : htn q s p n ≤ n := by
  have := nsum_le (f := fun k => if soB q s p k = true then 1 else 0) (b := 1) n (fun k _ => by show (if _ then 1 else 0) ≤ 1; split <;> omega)
  unfold htn
  omega
theorem mx_le {p : Nat → Bool} {v : Nat → Nat} {b : Nat} (h : ∀ k, v k ≤ b) (n : Nat) : mx p v n ≤ b := by
  rcases mx_at (p := p) (v := v) n with h0 | ⟨k, -, -, h3⟩
  · omega
  · rw [← h3]; exact h k
theorem mxs_le (q : GD) (p : Nat) : mxs q p ≤ q.1 := mx_le (fun s => htn_le q s p q.1) 10
theorem MM_le (q : GD) : MM q ≤ q.1 := mx_le (fun p => mxs_le q p) 810
theorem ht_mxs {q : GD} {s p : Nat} (h1 : 1 ≤ s) (h2 : s ≤ 9) : ht q s p ≤ mxs q p := mx_ge (p := fun s => decide (1 ≤ s)) (v := fun s => ht q s p) 10 s (by omega) (decide_eq_true h1)
theorem mxs_MM {q : GD} {p : Nat} (hp : p < 810) : mxs q p ≤ MM q := mx_ge (p := fun _ => true) (v := mxs q) 810 p hp rfl
/-- some rule fits -/
theorem fit_ex (q : GD) : ∃ s p, 1 ≤ s ∧ s ≤ 9 ∧ p < 810 ∧ fitB q s p = true := by
  have key : ∃ p, p < 810 ∧ mxs q p = MM q := by
    rcases mx_at (p := fun _ => true) (v := mxs q) 810 with h | ⟨p, h1, -, h3⟩
    · have := mxs_MM (q := q) (p := 0) (by decide)
      have h : MM q = 0 := h
      exact ⟨0, by decide, by omega⟩
    · exact ⟨p, h1, h3⟩
  obtain ⟨p, hp, hm⟩ := key
  have key2 : ∃ s, 1 ≤ s ∧ s ≤ 9 ∧ ht q s p = mxs q p := by
    rcases mx_at (p := fun s => decide (1 ≤ s)) (v := fun s => ht q s p) 10 with h | ⟨s, h1, h2, h3⟩
    · have h : mxs q p = 0 := h
      have := ht_mxs (q := q) (s := 1) (p := p) (by decide) (by decide)
      exact ⟨1, by decide, by decide, by omega⟩
    · exact ⟨s, of_decide_eq_true h2, by omega, h3⟩
  obtain ⟨s, h1, h2, h3⟩ := key2
  exact ⟨s, p, h1, h2, hp, by unfold fitB; rw [decide_eq_true h1, decide_eq_true (h3.trans hm)]; rfl⟩
theorem fit_1 {q : GD} {s p : Nat} (h : fitB q s p = true) : 1 ≤ s ∧ ht q s p = MM q := by
  unfold fitB at h
  rw [Bool.and_eq_true, decide_eq_true_eq, decide_eq_true_eq] at h
  exact h
section RULES
variable {g : zG} {I : Nat → Nat → Int32} {P : Nat → Nat → Option Nat} {a : Nat} {q : GD}
theorem c_gap {p : Nat} (hp : p < 810) : Cl mX7_gap [.int (nI p)] (g, I, P) (some (.int (nI (gp p)))) (g, I, P) := by
  refine eX7_gap (wX7_gap_0 ⟨?_, rfl⟩)
  rw [show (90 : Int32) = nI 90 from rfl, pk_div (by omega) (by decide) (by decide), nI_1]; rfl
theorem c_wear {p : Nat} (hp : p < 810) : Cl mX7_wear [.int (nI p)] (g, I, P) (some (.int (nI (wr p)))) (g, I, P) := by
  refine eX7_wear (wX7_wear_0 ⟨?_, rfl⟩)
  rw [show (10 : Int32) = nI 10 from rfl, pk_div (by omega) (by decide) (by decide), show (9 : Int32) = nI 9 from rfl, pk_rem (by omega) (by decide) (by decide), nI_1]; rfl
theorem c_since {p : Nat} (hp : p < 810) : Cl mX7_since [.int (nI p)] (g, I, P) (some (.int (nI (sn p)))) (g, I, P) := by
  refine eX7_since (wX7_since_0 ⟨?_, rfl⟩)
  rw [show (10 : Int32) = nI 10 from rfl, pk_rem (by omega) (by decide) (by decide)]; rfl
/-- Rules looks at the log at a -/
def RuA (g : zG) (I : Nat → Nat → Int32) (P : Nat → Nat → Option Nat) (a : Nat) (q : GD) : Prop := a + 3 ≤ 41 ∧ P 88 0 = some a ∧ LgS g P a ∧ LgD I a q ∧ I 88 1 = nI (gLast q q.1)
theorem RuA.k {J : Nat → Nat → Int32} (R : RuA g I P a q) (h : ∀ c, c < 41 → J c = I c) (h1 : J 88 1 = I 88 1) : RuA g J P a q := ⟨R.1, R.2.1, R.2.2.1, R.2.2.2.1.keep (fun j hj => h _ (by have := R.1; omega)), by rw [h1]; exact R.2.2.2.2⟩
theorem c_lessBy {p k : Nat} (S : Sg g) (W : GW q) (R : RuA g I P a q) (hp : p < 810) (hk : k < q.1) : Cl mX7_lessBy [.ref 88, .int (nI p), .int (nI (q.2.1 k))] (g, I, P) (some (.int (nI (lsv q p k)))) (g, I, P) := by
  have h1 := wr_le p
  have h2 := gLast_ge (q := q) q.1 k hk
  have h3 := lsv_le (k := k) W hp
  refine eX7_lessBy (wX7_lessBy_0 ⟨_, c_wear hp, fun _ => ⟨S.k 88 7 (by decide), _, c_gap hp, _, c_since hp, fun e => ?_, ?_, rfl⟩, fun e => absurd (nI_le (a := 1) (b := wr p) h1.1 (by omega)) e⟩)
  · have := (nI_eq (a := wr p) (b := 0) (by omega) (by decide)).mp e
    omega
  · rw [R.2.2.2.2, pk_sub h2, pk_mul, nI_add, pk_div (by omega) (by omega) (by omega)]; rfl
theorem c_lastPlace (A : LgS g P a) (D : LgD I a q) (W : GW q) : Cl mX5_lastPlace [.ref a] (g, I, P) (some (.int (nI (gLast q q.1)))) (g, I, P) := by
  have hn := W.1
  have key : ∀ m k, k + m = q.1 → Zt none mX5_lastPlace 0 0 4 [(0, .ref a), (1, .int (nI (gLast q k))), (2, .int (nI k))] [] (g, I, P) (some (.int (nI (gLast q q.1)))) (g, I, P) := by
    intro m
    induction m with
    | zero =>
      intro k hk
      have hk : k = q.1 := hk
      subst hk
      exact wX5_lastPlace_4 ⟨A.1, fun _ => ⟨rfl, rfl⟩, fun e => absurd (by rw [D.1]; exact Int32.le_refl _) e⟩
    | succ m ih =>
      intro k hk
      have h1 := gLast_le W k (by omega)
      have h2 := (W.2 k (by omega)).1
      refine wX5_lastPlace_4 ⟨A.1, fun e => ?_, fun _ => ⟨A.1, _, A.2.2.2.1, _, c_got A.2.1.1 A.2.2.1.1 (by decide) (by omega), ?_⟩⟩
      · rw [D.1] at e; exact absurd e (nI_ge (by omega) (by omega))
      · rw [(D.2 k (by omega)).1, zmmax_n (by omega) (by omega), nI_1]
        exact ih (k + 1) (by omega)
  exact eX5_lastPlace (wX5_lastPlace_0 (key q.1 0 (by omega)))
/-- the inner loop: the starts from s to hi -/
theorem c_hitIn {p k hi : Nat} (S : Sg g) (Q : Sp P) (hh : hi ≤ 9) : ∀ m s (K : Nat → Nat → Int32), s + m = hi + 1 → ∃ J, (∀ r h', Zt none mX7_countHits 0 0 10 [(0, .ref 88), (1, .int (nI p)), (2, .int (nI (k + 1)))] [] (g, J, P) r h' → Zt none mX7_countHits 0 0 80 [(0, .ref 88), (1, .int (nI p)), (2, .int (nI k)), (5, .int (nI hi)), (7, .int (nI s))] [] (g, K, P) r h') ∧ (∀ j, s ≤ j → j ≤ hi → J 92 j = K 92 j + 1) ∧ (∀ j, (j < s ∨ hi < j) → J 92 j = K 92 j) ∧ ∀ c, c ≠ 92 → J c = K c := by
  intro m
  induction m with
  | zero =>
    intro s K hs
    refine ⟨K, fun r h' Z => wX7_countHits_80 ⟨fun _ => by rw [nI_1]; exact Z, fun e => absurd (nI_lt (by omega) (by omega)) e⟩, fun j h1 h2 => by omega, fun _ _ => rfl, fun _ _ => rfl⟩
  | succ m ih =>
    intro s K hs
    obtain ⟨J, z, a1, a2, a3⟩ := ih (s + 1) (zU K 92 s (K 92 s + 1)) (by omega)
    refine ⟨J, fun r h' Z => wX7_countHits_80 ⟨fun e => absurd e (nI_nlt (by omega) (by omega)), fun _ => ⟨S.k 88 7 (by decide), 92, Q.p 88 3 92 (by decide), S.k 88 7 (by decide), 92, Q.p 88 3 92 (by decide), _, c_got (S.k 92 13 (by decide)) (S.l 92 10 (by decide)) (by decide) (by omega), _, c_put (S.k 92 13 (by decide)) (S.l 92 10 (by decide)) (by decide) (by omega), ?_⟩⟩, fun j h1 h2 => ?_, fun j h1 => ?_, fun c hc => ?_⟩
    · rw [nI_1]; exact z r h' Z
    · by_cases e : j = s
      · subst e; rw [a2 j (by omega), zU_s]
      · rw [a1 j (by omega) h2, zU_k _ _ e]
    · rw [a2 j (by omega), zU_k _ _ (by omega)]
    · rw [a3 c hc]; funext j; rw [zU_a _ _ hc]
theorem c_countHits {p : Nat} (S : Sg g) (Q : Sp P) (W : GW q) (R : RuA g I P a q) (hp : p < 810) : ∃ J, Cl mX7_countHits [.ref 88, .int (nI p)] (g, I, P) none (g, J, P) ∧ (∀ s, 1 ≤ s → s ≤ 9 → J 92 s = nI (ht q s p)) ∧ ∀ c, c ≠ 92 → J c = I c := by
  have hn := W.1
  obtain ⟨K0, z0, f1, f2⟩ := c_fill (g := g) (I := I) (P := P) (a := 92) (n := 10) (x := 0) (S.k 92 13 (by decide)) (S.l 92 10 (by decide)) (by decide)
  have key : ∀ m k (K : Nat → Nat → Int32), k + m = q.1 → (∀ s, 1 ≤ s → s ≤ 9 → K 92 s = nI (htn q s p k)) → (∀ c, c ≠ 92 → K c = I c) → ∃ J, Zt none mX7_countHits 0 0 10 [(0, .ref 88), (1, .int (nI p)), (2, .int (nI k))] [] (g, K, P) none (g, J, P) ∧ (∀ s, 1 ≤ s → s ≤ 9 → J 92 s = nI (ht q s p)) ∧ ∀ c, c ≠ 92 → J c = I c := by
    intro m
    induction m with
    | zero =>
      intro k K hk h1 h2
      have hk : k = q.1 := hk
      subst hk
      have RK := R.k (J := K) (fun c hc => h2 c (by omega)) (by rw [h2 88 (by decide)])
      exact ⟨K, wX7_countHits_10 ⟨S.k 88 7 (by decide), _, RK.2.1, RK.2.2.1.1, fun _ => ⟨rfl, rfl⟩, fun e => absurd (by rw [RK.2.2.2.1.1]; exact Int32.le_refl _) e⟩, h1, h2⟩
    | succ m ih =>
      intro k K hk h1 h2
      have RK := R.k (J := K) (fun c hc => h2 c (by omega)) (by rw [h2 88 (by decide)])
      have A := RK.2.2.1
      have D := RK.2.2.2.1
      have hw := W.2 k (by omega)
      have hl := (lsv_le (k := k) W hp).2
      have st : ∀ lo hi, hi ≤ 9 → 1 ≤ lo → lo ≤ 200 → (∀ s, 1 ≤ s → s ≤ 9 → (soB q s p k = true ↔ lo ≤ s ∧ s ≤ hi)) → ∃ J, Zt none mX7_countHits 0 0 80 [(0, .ref 88), (1, .int (nI p)), (2, .int (nI k)), (5, .int (nI hi)), (7, .int (nI lo))] [] (g, K, P) none (g, J, P) ∧ (∀ s, 1 ≤ s → s ≤ 9 → J 92 s = nI (ht q s p)) ∧ ∀ c, c ≠ 92 → J c = I c := by
        intro lo hi hh hl2 hl3 hs
        by_cases hlh : lo ≤ hi + 1
        · obtain ⟨K1, z1, b1, b2, b3⟩ := c_hitIn (p := p) (k := k) S Q hh (hi + 1 - lo) lo K (by omega)
          obtain ⟨J, z, c1, c2⟩ := ih (k + 1) K1 (by omega) (fun s s1 s2 => by
            by_cases e : lo ≤ s ∧ s ≤ hi
            · rw [b1 s e.1 e.2, h1 s s1 s2, nI_1]
              show _ = nI (htn q s p k + (if soB q s p k = true then 1 else 0))
              rw [if_pos ((hs s s1 s2).mpr e)]
            · rw [b2 s (by omega), h1 s s1 s2]
              show _ = nI (htn q s p k + (if soB q s p k = true then 1 else 0))
              rw [if_neg (fun h => e ((hs s s1 s2).mp h))]; rfl) (fun c hc => by rw [b3 c hc, h2 c hc])
          exact ⟨J, z1 _ _ z, c1, c2⟩
        · obtain ⟨J, z, c1, c2⟩ := ih (k + 1) K (by omega) (fun s s1 s2 => by
            rw [h1 s s1 s2]
            show _ = nI (htn q s p k + (if soB q s p k = true then 1 else 0))
            rw [if_neg (fun h => by have := (hs s s1 s2).mp h; omega)]; rfl) h2
          exact ⟨J, wX7_countHits_80 ⟨fun _ => by rw [nI_1]; exact z, fun e => absurd (nI_lt (by omega) (by omega)) e⟩, c1, c2⟩
      have e12 := (D.2 k (by omega)).2
      have e21 := (D.2 k (by omega)).1
      have go : ∃ J, (((¬ nI (q.2.2 k) = 0) → Zt none mX7_countHits 0 0 80 [(0, .ref 88), (1, .int (nI p)), (2, .int (nI k)), (5, .int (zmmin 9 (nI (lsv q p k) + nI (q.2.2 k)))), (7, .int (nI (lsv q p k) + nI (q.2.2 k)))] [] (g, K, P) none (g, J, P)) ∧ ((nI (q.2.2 k) = 0) → Zt none mX7_countHits 0 0 80 [(0, .ref 88), (1, .int (nI p)), (2, .int (nI k)), (5, .int (zmmin 9 (nI (lsv q p k) + nI (q.2.2 k)))), (7, .int 1)] [] (g, K, P) none (g, J, P))) ∧ (∀ s, 1 ≤ s → s ≤ 9 → J 92 s = nI (ht q s p)) ∧ ∀ c, c ≠ 92 → J c = I c := by
        rw [nI_add, show (9 : Int32) = nI 9 from rfl, zmmin_n (by decide) (by omega)]
        by_cases hd : q.2.2 k = 0
        · obtain ⟨J, z, c1, c2⟩ := st 1 (min 9 (lsv q p k + q.2.2 k)) (by omega) (by decide) (by decide) (fun s s1 s2 => by
            unfold soB
            rw [decide_eq_true_eq]
            constructor <;> intro h <;> omega)
          exact ⟨J, ⟨fun e => absurd (by rw [hd]; rfl) e, fun _ => z⟩, c1, c2⟩
        · obtain ⟨J, z, c1, c2⟩ := st (lsv q p k + q.2.2 k) (min 9 (lsv q p k + q.2.2 k)) (by omega) (by omega) (by omega) (fun s s1 s2 => by
            unfold soB
            rw [decide_eq_true_eq]
            constructor <;> intro h <;> omega)
          exact ⟨J, ⟨fun _ => z, fun e => absurd ((nI_eq (b := 0) (by omega) (by decide)).mp e) hd⟩, c1, c2⟩
      obtain ⟨J, ⟨z1, z2⟩, c1, c2⟩ := go
      refine ⟨J, wX7_countHits_10 ⟨S.k 88 7 (by decide), _, RK.2.1, A.1, fun e => ?_, fun _ => ⟨S.k 88 7 (by decide), _, RK.2.1, A.1, _, A.2.2.2.2, _, c_got A.2.1.2 A.2.2.1.2 (by decide) (by omega), S.k 88 7 (by decide), _, RK.2.1, A.1, _, A.2.2.2.1, _, c_got A.2.1.1 A.2.2.1.1 (by decide) (by omega), S.k 88 7 (by decide), nI (lsv q p k), ?_, ?_⟩⟩, c1, c2⟩
      · rw [D.1] at e; exact absurd e (nI_ge (by omega) (by omega))
      · rw [e21]; exact c_lessBy S W RK hp (by omega)
      · rw [e12]; exact ⟨z1, z2⟩
  obtain ⟨J, z, c1, c2⟩ := key q.1 0 K0 (by omega) (fun s s1 s2 => f1 s (by omega)) f2
  exact ⟨J, eX7_countHits (wX7_countHits_0 ⟨S.k 88 7 (by decide), 92, Q.p 88 3 92 (by decide), _, z0, z⟩), c1, c2⟩
def stB (q : GD) (p b s : Nat) : Bool := decide (1 ≤ s) && decide (ht q s p = b)
theorem c_keepBest {p : Nat} (S : Sg g) (Q : Sp P) (W : GW q) (hp : p < 810) (H : ∀ s, 1 ≤ s → s ≤ 9 → I 92 s = nI (ht q s p)) : Cl mX7_keepBest [.ref 88, .int (nI p)] (g, I, P) none (g, zU (zU I 93 p (nI (mxs q p))) 94 p (bs (stB q p (mxs q p)) 10), P) := by
  have hn := W.1
  have hb : ∀ s, ht q s p ≤ 8 := fun s => Nat.le_trans (htn_le q s p q.1) hn
  have hm : ∀ n, mx (fun s => decide (1 ≤ s)) (fun s => ht q s p) n ≤ 8 := fun n => mx_le hb n
  have key : ∀ m s, s + m = 10 → 1 ≤ s → Zt none mX7_keepBest 0 0 7 [(0, .ref 88), (1, .int (nI p)), (2, .int (nI (mx (fun s => decide (1 ≤ s)) (fun s => ht q s p) s))), (3, .int (bs (stB q p (mx (fun s => decide (1 ≤ s)) (fun s => ht q s p) s)) s)), (4, .int (nI s))] [] (g, I, P) none (g, zU (zU I 93 p (nI (mxs q p))) 94 p (bs (stB q p (mxs q p)) 10), P) := by
    intro m
    induction m with
    | zero =>
      intro s hs h1
      obtain rfl : s = 10 := hs
      exact wX7_keepBest_7 ⟨fun _ => ⟨S.k 88 7 (by decide), 93, Q.p 88 4 93 (by decide), _, c_put (S.k 93 13 (by decide)) (S.l 93 810 (by decide)) (by decide) hp, S.k 88 7 (by decide), 94, Q.p 88 5 94 (by decide), _, c_put (S.k 94 13 (by decide)) (S.l 94 810 (by decide)) (by decide) hp, rfl, rfl⟩, fun e => absurd (by decide) e⟩
    | succ m ih =>
      intro s hs h1
      have ih := ih (s + 1) (by omega) (by omega)
      have h2 := hm s
      have h3 := hb s
      have ds : (fun s => decide (1 ≤ s)) s = true := decide_eq_true h1
      rw [mx_t (p := fun s => decide (1 ≤ s)) (v := fun s => ht q s p) ds] at ih
      refine wX7_keepBest_7 ⟨fun e => absurd e (nI_nlt (a := 9) (by omega) (by decide)), fun _ => ⟨S.k 88 7 (by decide), 92, Q.p 88 3 92 (by decide), _, c_got (S.k 92 13 (by decide)) (S.l 92 10 (by decide)) (by decide) (by omega), ?_⟩⟩
      rw [H s h1 (by omega)]
      refine ⟨fun e => ?_, fun e => ?_⟩
      · rw [nI_leI (by omega) (by omega)] at e
        rw [show max (mx (fun s => decide (1 ≤ s)) (fun s => ht q s p) s) (ht q s p) = mx (fun s => decide (1 ≤ s)) (fun s => ht q s p) s by omega] at ih
        refine ⟨fun e2 => ?_, fun e2 => ⟨_, c_bit (by omega), ?_⟩⟩
        · rw [nI_eq (by omega) (by omega)] at e2
          rw [bs_f (show stB q p _ s = false by unfold stB; rw [decide_eq_false e2, Bool.and_false])] at ih
          rw [nI_1]; exact ih
        · rw [nI_eq (by omega) (by omega)] at e2
          rw [bs_t (show stB q p _ s = true by unfold stB; rw [decide_eq_true h1, decide_eq_true e2]; rfl)] at ih
          rw [nI_1]; exact ih
      · rw [nI_leI (by omega) (by omega)] at e
        rw [show max (mx (fun s => decide (1 ≤ s)) (fun s => ht q s p) s) (ht q s p) = ht q s p by omega] at ih
        refine ⟨fun e2 => absurd rfl e2, fun _ => ⟨_, c_bit (by omega), ?_⟩⟩
        rw [bs_t (show stB q p (ht q s p) s = true by unfold stB; rw [decide_eq_true h1, decide_eq_true rfl]; rfl), (bs_0 (p := stB q p (ht q s p)) (N := s) (by omega)).mpr (anyB_f (fun k hk => by
          unfold stB
          cases hk1 : decide (1 ≤ k) with
          | false => rfl
          | true =>
            have := mx_ge (p := fun s => decide (1 ≤ s)) (v := fun s => ht q s p) s k hk hk1
            have this : ht q k p ≤ _ := this
            rw [decide_eq_false (by omega)]; rfl))] at ih
        rw [nI_1]; exact ih
  have z := key 9 1 (by omega) (by decide)
  have m0 : mx (fun s => decide (1 ≤ s)) (fun s => ht q s p) 1 = 0 := mx_f (w := 0) rfl
  have b0 : bs (stB q p 0) 1 = 0 := bs_f (n := 0) (by unfold stB; rfl)
  rw [m0, b0] at z
  exact eX7_keepBest (wX7_keepBest_0 z)
/-- Rules has weighed the log q, which lies at a -/
def RuD (g : zG) (I : Nat → Nat → Int32) (P : Nat → Nat → Option Nat) (a : Nat) (q : GD) : Prop := RuA g I P a q ∧ I 88 2 = nI (MM q) ∧ (∀ p, p < 810 → I 93 p = nI (mxs q p)) ∧ ∀ p, p < 810 → I 94 p = bs (stB q p (mxs q p)) 10
theorem pT_88 : ∀ q ∈ pT, q.1 ≠ 88 ∨ q.2.1 ≠ 0 := by decide
theorem c_weigh (S : Sg g) (Q : Sp P) (W : GW q) (ha : a + 3 ≤ 41) (A : LgS g P a) (D : LgD I a q) : ∃ J, Cl mX7_weigh [.ref 88, .ref a] (g, I, P) none (g, J, zU P 88 0 (some a)) ∧ RuD g J (zU P 88 0 (some a)) a q ∧ Kp I J ∧ KpP P (zU P 88 0 (some a)) := by
  have hn := W.1
  have QP : KpP P (zU P 88 0 (some a)) := by
    refine ⟨fun c hc => by funext k; rw [zU_a _ _ (by omega)], fun x hx => ?_⟩
    rcases pT_88 x hx with h | h
    · rw [zU_a _ _ h]; exact Q x hx
    · rw [zU_k _ _ h]; exact Q x hx
  obtain ⟨R, hR⟩ : ∃ R, R = zU P 88 0 (some a) := ⟨_, rfl⟩
  have QR : Sp R := by rw [hR]; exact QP.2
  have AR : LgS g R a := A.keep (by rw [hR]; funext k; rw [zU_a _ _ (by omega)])
  have PR : R 88 0 = some a := by rw [hR, zU_s]
  have g11 := gLast_le W q.1 (Nat.le_refl _)
  have key : ∀ m p (K : Nat → Nat → Int32), p + m = 810 → RuA g K R a q → K 88 2 = nI (mx (fun _ => true) (mxs q) p) → (∀ j, j < p → K 93 j = nI (mxs q j)) → (∀ j, j < p → K 94 j = bs (stB q j (mxs q j)) 10) → Kp I K → ∃ J, Zt none mX7_weigh 0 0 23 [(0, .ref 88), (2, .int (nI p))] [] (g, K, R) none (g, J, R) ∧ RuD g J R a q ∧ Kp I J := by
    intro m
    induction m with
    | zero =>
      intro p K hp h1 h2 h3 h4 h5
      obtain rfl : p = 810 := hp
      exact ⟨K, wX7_weigh_23 ⟨fun _ => ⟨rfl, rfl⟩, fun e => absurd (Int32.le_refl _) e⟩, ⟨h1, h2, h3, h4⟩, h5⟩
    | succ m ih =>
      intro p K hp h1 h2 h3 h4 h5
      have hm : mx (fun _ => true) (mxs q) p ≤ 8 := mx_le (fun j => Nat.le_trans (mxs_le q j) hn) p
      have hx : mxs q p ≤ 8 := Nat.le_trans (mxs_le q p) hn
      obtain ⟨K1, z1, b1, b2⟩ := c_countHits S QR W h1 (p := p) (by omega)
      have z2 := c_keepBest (g := g) (I := K1) (P := R) (q := q) (p := p) S QR W (by omega) b1
      obtain ⟨K2, e2⟩ : ∃ K2, K2 = zU (zU K1 93 p (nI (mxs q p))) 94 p (bs (stB q p (mxs q p)) 10) := ⟨_, rfl⟩
      rw [← e2] at z2
      have k2 : ∀ c, c ≠ 92 → c ≠ 93 → c ≠ 94 → K2 c = K c := fun c c1 c2 c3 => by rw [e2]; funext j; rw [zU_a _ _ c3, zU_a _ _ c2, b2 c c1]
      have k93 : ∀ j, K2 93 j = if j = p then nI (mxs q p) else K 93 j := fun j => by
        rw [e2, zU_a _ _ (by decide)]
        by_cases e : j = p
        · rw [if_pos e, e, zU_s]
        · rw [if_neg e, zU_k _ _ e, b2 93 (by decide)]
      have k94 : ∀ j, K2 94 j = if j = p then bs (stB q p (mxs q p)) 10 else K 94 j := fun j => by
        rw [e2]
        by_cases e : j = p
        · rw [if_pos e, e, zU_s]
        · rw [if_neg e, zU_k _ _ e, zU_a _ _ (by decide), b2 94 (by decide)]
      obtain ⟨J, z, c1, c2⟩ := ih (p + 1) (zU K2 88 2 (nI (mx (fun _ => true) (mxs q) (p + 1)))) (by omega) (h1.k (fun c hc => by funext j; rw [zU_a _ _ (by omega), k2 c (by omega) (by omega) (by omega)]) (by rw [zU_k _ _ (by decide), k2 88 (by decide) (by decide) (by decide)])) (zU_s _ _ _ _) (fun j hj => by
        rw [zU_a _ _ (by decide), k93 j]
        by_cases e : j = p
        · rw [if_pos e, e]
        · rw [if_neg e]; exact h3 j (by omega)) (fun j hj => by
        rw [zU_a _ _ (by decide), k94 j]
        by_cases e : j = p
        · rw [if_pos e, e]
        · rw [if_neg e]; exact h4 j (by omega)) (fun c hc => by funext j; rw [zU_a _ _ (by omega), k2 c (by omega) (by omega) (by omega), h5 c hc])
      refine ⟨J, wX7_weigh_23 ⟨fun e => absurd e (nI_ge (b := 810) (by omega) (by decide)), fun _ => ⟨S.k 88 7 (by decide), _, z1, S.k 88 7 (by decide), _, z2, S.k 88 7 (by decide), S.k 88 7 (by decide), _, QR.p 88 4 93 (by decide), _, c_got (S.k 93 13 (by decide)) (S.l 93 810 (by decide)) (by decide) (by omega), S.k 88 7 (by decide), ?_⟩⟩, c1, c2⟩
      rw [k93 p, if_pos rfl, k2 88 (by decide) (by decide) (by decide), h2, zmmax_n (by omega) (by omega), nI_1]
      exact z
  obtain ⟨J, z, c1, c2⟩ := key 810 0 (zU (zU I 88 1 (nI (gLast q q.1))) 88 2 0) (by omega) ⟨ha, PR, AR, D.keep (fun j hj => by funext k; rw [zU_a _ _ (by omega), zU_a _ _ (by omega)]), by rw [zU_k _ _ (by decide), zU_s]⟩ (zU_s _ _ _ _) (fun j hj => by omega) (fun j hj => by omega) (fun c hc => by funext k; rw [zU_a _ _ (by omega), zU_a _ _ (by omega)])
  refine ⟨J, eX7_weigh (wX7_weigh_0 ⟨S.k 88 7 (by decide), S.k 88 7 (by decide), a, zU_s _ _ _ _, A.1, nI (gLast q q.1), ?_, S.k 88 7 (by decide), S.k 88 7 (by decide), ?_⟩), ?_, c2, QP⟩
  · rw [← hR]; exact c_lastPlace AR D W
  · rw [← hR]; exact z
  · rw [← hR]; exact c1
theorem fit_bs {p : Nat} (hp : p < 810) : bs (fun s => fitB q s p) 10 = if mxs q p = MM q then bs (stB q p (mxs q p)) 10 else 0 := by
  by_cases h : mxs q p = MM q
  · rw [if_pos h, h]; rfl
  · rw [if_neg h]
    refine (bs_0 (by decide)).mpr (anyB_f (fun s hs => ?_))
    cases hf : fitB q s p with
    | false => rfl
    | true =>
      exfalso
      have h1 := fit_1 hf
      have h2 := ht_mxs (q := q) (p := p) h1.1 (by omega)
      have h3 := mxs_MM (q := q) hp
      omega
theorem c_startsOf {p : Nat} (S : Sg g) (Q : Sp P) (W : GW q) (R : RuD g I P a q) (hp : p < 810) : Cl mX7_startsOf [.ref 88, .int (nI p)] (g, I, P) (some (.int (bs (fun s => fitB q s p) 10))) (g, I, P) := by
  have hn := W.1
  have h1 := mxs_le q p
  have h2 := MM_le q
  refine eX7_startsOf (wX7_startsOf_0 ⟨S.k 88 7 (by decide), 93, Q.p 88 4 93 (by decide), _, c_got (S.k 93 13 (by decide)) (S.l 93 810 (by decide)) (by decide) hp, S.k 88 7 (by decide), fun e => ⟨?_, rfl⟩, fun e => ⟨S.k 88 7 (by decide), 94, Q.p 88 5 94 (by decide), _, c_got (S.k 94 13 (by decide)) (S.l 94 810 (by decide)) (by decide) hp, ?_, rfl⟩⟩)
  · rw [R.2.2.1 p hp, R.2.1, nI_eq (by omega) (by omega)] at e
    rw [fit_bs hp, if_neg e]
  · rw [R.2.2.1 p hp, R.2.1, nI_eq (by omega) (by omega)] at e
    rw [fit_bs hp, if_pos e, R.2.2.2 p hp]
end RULES
