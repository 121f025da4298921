/-! ===== readings of a line ===== -/
theorem nsum_upd {h : Nat → Nat} {k x : Nat} (h0 : h k = 0) : ∀ M, nsum (fun l => if l = k then x else h l) M = nsum h M + if k < M then x else 0 := by
  intro M
  induction M with
  | zero => rfl
  | succ M ih =>
    show nsum (fun l => if l = k then x else h l) M + (if M = k then x else h M) = nsum h M + h M + if k < M + 1 then x else 0
    rw [ih]
    by_cases e : M = k
    · subst e
      rw [if_pos rfl, if_neg (by omega), if_pos (by omega), h0]
    · rw [if_neg e]
      by_cases hk : k < M
      · rw [if_pos hk, if_pos (by omega)]; omega
      · rw [if_neg hk, if_neg (by omega)]; omega
/-- a sum over some with different z is not more than over all z -/
theorem nsum_inj {p : Nat → Bool} {z v : Nat → Nat} {M : Nat} : ∀ N, (∀ w, w < N → p w = true → z w < M) → (∀ u w, u < N → w < N → p u = true → p w = true → z u = z w → u = w) → ∃ q : Nat → Bool, (∀ l, q l = true → ∃ w, w < N ∧ p w = true ∧ z w = l) ∧ nsum (fun w => if p w = true then v (z w) else 0) N = nsum (fun l => if q l = true then v l else 0) M := by
  intro N
  induction N with
  | zero =>
    intro _ _
    refine ⟨fun _ => false, fun l h => (nomatch h), ?_⟩
    have : nsum (fun l => if (fun _ => false) l = true then v l else 0) M = 0 := by
      have := nsum_ext (f := fun l => if (false : Bool) = true then v l else 0) (n := 0) M (fun k _ _ => if_neg (by decide))
      rw [Nat.zero_add] at this
      exact this
    rw [this]; rfl
  | succ N ih =>
    intro h1 h2
    obtain ⟨q, q1, q2⟩ := ih (fun w hw => h1 w (by omega)) (fun u w hu hw => h2 u w (by omega) (by omega))
    cases hp : p N with
    | false =>
      refine ⟨q, fun l hl => ?_, ?_⟩
      · obtain ⟨w, a1, a2⟩ := q1 l hl
        exact ⟨w, by omega, a2⟩
      · show nsum _ N + (if p N = true then _ else 0) = _
        rw [q2, if_neg (by rw [hp]; decide)]; rfl
    | true =>
      have hz : q (z N) = false := by
        cases hq : q (z N) with
        | false => rfl
        | true =>
          obtain ⟨w, a1, a2, a3⟩ := q1 _ hq
          have := h2 w N (by omega) (by omega) a2 hp a3
          omega
      refine ⟨fun l => if l = z N then true else q l, fun l hl => ?_, ?_⟩
      · by_cases e : l = z N
        · exact ⟨N, by omega, hp, e.symm⟩
        · simp only [if_neg e] at hl
          obtain ⟨w, a1, a2⟩ := q1 l hl
          exact ⟨w, by omega, a2⟩
      · show nsum _ N + (if p N = true then v (z N) else 0) = _
        have e : (fun l => if (fun l => if l = z N then true else q l) l = true then v l else 0) = fun l => if l = z N then v (z N) else (fun l => if q l = true then v l else 0) l := by
          funext l
          by_cases e : l = z N
          · simp only [if_pos e, if_true]; rw [e]
          · simp only [if_neg e]
        rw [e, nsum_upd (by simp only [hz]; rfl), q2, if_pos hp, if_pos (h1 N (by omega) hp)]
theorem nsum_pos {f : Nat → Nat} : ∀ n, nsum f n ≠ 0 → ∃ k, k < n ∧ f k ≠ 0 := by
  intro n
  induction n with
  | zero => intro h; exact absurd rfl h
  | succ n ih =>
    intro h
    by_cases hn : f n = 0
    · have h : nsum f n + f n ≠ 0 := h
      obtain ⟨k, a1, a2⟩ := ih (by omega)
      exact ⟨k, by omega, a2⟩
    · exact ⟨n, by omega, hn⟩
theorem nsum_0 {f : Nat → Nat} : ∀ n, nsum f n = 0 → ∀ k, k < n → f k = 0 := by
  intro n
  induction n with
  | zero => intro _ k hk; omega
  | succ n ih =>
    intro h k hk
    have h : nsum f n + f n = 0 := h
    by_cases e : k = n
    · subst e; omega
    · exact ih (by omega) k (by omega)
theorem pw_sum : ∀ r : Fin 13, nsum (fun l => if 1 ≤ l ∧ l ≤ r.val then 2 ^ (r.val - l) else 0) 7 ≤ 2 ^ r.val := by decide +kernel
theorem dif_all {u v : Nat → Nat} : ∀ n, dif u v n = 0 → ∀ k, k < n → u k = v k := by
  intro n h k hk
  have := nsum_0 n h k hk
  by_cases e : u k = v k
  · exact e
  · simp only [if_neg e] at this; omega
theorem lcp_all {u v : Nat → Nat} : ∀ m i, (∀ k, i ≤ k → k < i + m → u k = v k) → lcp u v m i = i + m := by
  intro m
  induction m with
  | zero => intro i _; rfl
  | succ m ih =>
    intro i h
    show (if u i = v i then lcp u v m (i + 1) else i) = _
    rw [if_pos (h i (by omega) (by omega)), ih (i + 1) (fun k h1 h2 => h k (by omega) (by omega))]
    omega
def ft (d : HD) (f : Nat → Nat) (n p w : Nat) : Bool := decide (p + hZ d w ≤ n ∧ unl d f w p = 0)
def rF (d : HD) (f : Nat → Nat) (n p b : Nat) (h : Nat → Nat) : Nat := nsum (fun w => if tb (hBw d b) w = true then (if ft d f n p w = true then h w else 0) else 0) (hN d)
theorem nsum_congr {f h : Nat → Nat} : ∀ n, (∀ k, k < n → f k = h k) → nsum f n = nsum h n := by
  intro n
  induction n with
  | zero => intro _; rfl
  | succ n ih =>
    intro e
    show nsum f n + f n = nsum h n + h n
    rw [ih (fun k hk => e k (by omega)), e n (by omega)]
theorem rF_c (d : HD) (f : Nat → Nat) (n : Nat) : Fc d (rF d f n) := by
  intro p b h h' e
  unfold rF
  apply nsum_congr
  intro w hw
  rw [e w hw]
/-- readings from a place on -/
def rT (d : HD) (f : Nat → Nat) (n : Nat) : Nat → Nat → Nat := frec d n 1 (rF d f n) 12
def rB (d : HD) (f : Nat → Nat) (n p w : Nat) : Nat := if ft d f n p w = true then rT d f n (p + hZ d w) (w + 1) else 0
theorem rB_t {d : HD} {f : Nat → Nat} {n p w : Nat} (h1 : p + hZ d w ≤ n) (h2 : unl d f w p = 0) : rB d f n p w = rT d f n (p + hZ d w) (w + 1) := by
  unfold rB
  rw [if_pos (show ft d f n p w = true from decide_eq_true ⟨h1, h2⟩)]
theorem rB_z {d : HD} {f : Nat → Nat} {n p w : Nat} (h : ¬ (p + hZ d w ≤ n ∧ unl d f w p = 0)) : rB d f n p w = 0 := by
  unfold rB
  rw [if_neg (by rw [show ft d f n p w = false from decide_eq_false h]; decide)]
theorem rT_s {d : HD} {f : Nat → Nat} {n p b : Nat} (W : HW d) (hn : n ≤ 12) (hp : p < n) : rT d f n p b = nsum (fun w => if tb (hBw d b) w = true then rB d f n p w else 0) (hN d) := frec_s W (rF_c d f n) hn hp
theorem rT_n {d : HD} {f : Nat → Nat} {n p b : Nat} (hp : n ≤ p) : rT d f n p b = 1 := frec_n hp
theorem ft_inj {d : HD} {f : Nat → Nat} {n p u w : Nat} (X : HX d) (hu : u < hN d) (hw : w < hN d) (h1 : ft d f n p u = true) (h2 : ft d f n p w = true) (e : hZ d u = hZ d w) : u = w := by
  obtain ⟨a1, a2⟩ := of_decide_eq_true h1
  obtain ⟨b1, b2⟩ := of_decide_eq_true h2
  by_cases h : u = w
  · exact h
  · exfalso
    refine X.1 u w hu hw h ⟨e, ?_⟩
    unfold hLcp
    rw [← e, Nat.min_self, lcp_all _ _ (fun k _ hk => ?_), Nat.zero_add]
    rw [dif_all _ a2 k (by omega), dif_all _ b2 k (by omega)]
theorem rT_le {d : HD} {f : Nat → Nat} {n : Nat} (W : HW d) (X : HX d) (hn : n ≤ 12) : ∀ r p b, n - p = r → b ≤ hN d → rT d f n p b ≤ 2 ^ r := by
  intro r
  induction r using Nat.strongRecOn with
  | ind r ih =>
    intro p b hp hb
    by_cases h0 : n ≤ p
    · rw [rT_n h0]; exact Nat.one_le_two_pow
    · rw [rT_s W hn (by omega)]
      have s1 : nsum (fun w => if tb (hBw d b) w = true then rB d f n p w else 0) (hN d) ≤ nsum (fun w => if (tb (hBw d b) w && ft d f n p w) = true then (fun l => if 1 ≤ l ∧ l ≤ r then 2 ^ (r - l) else 0) (hZ d w) else 0) (hN d) := by
        apply nsum_mono
        intro w hw
        cases ht : tb (hBw d b) w with
        | false => simp
        | true =>
          unfold rB
          cases hf : ft d f n p w with
          | false => simp
          | true =>
            obtain ⟨a1, a2⟩ := of_decide_eq_true hf
            have z1 := (W.2.2.1 w hw).1
            have := ih (r - hZ d w) (by omega) (p + hZ d w) (w + 1) (by omega) (by omega)
            simp only [Bool.and_self, if_true]
            rw [if_pos ⟨z1, by omega⟩]
            exact this
      obtain ⟨q, -, q2⟩ := nsum_inj (p := fun w => tb (hBw d b) w && ft d f n p w) (z := hZ d) (v := fun l => if 1 ≤ l ∧ l ≤ r then 2 ^ (r - l) else 0) (M := 7) (hN d) (fun w hw _ => by have := (W.2.2.1 w hw).2; omega) (fun u w hu hw h1 h2 e => by
        simp only [Bool.and_eq_true] at h1 h2
        exact ft_inj X hu hw h1.2 h2.2 e)
      have s2 : nsum (fun l => if q l = true then (fun l => if 1 ≤ l ∧ l ≤ r then 2 ^ (r - l) else 0) l else 0) 7 ≤ nsum (fun l => if 1 ≤ l ∧ l ≤ r then 2 ^ (r - l) else 0) 7 := by
        apply nsum_mono
        intro l _
        split
        · exact Nat.le_refl _
        · exact Nat.zero_le _
      have s3 := pw_sum ⟨r, by omega⟩
      rw [q2] at s1
      exact Nat.le_trans s1 (Nat.le_trans s2 s3)
theorem rT_b {d : HD} {f : Nat → Nat} {n p b : Nat} (W : HW d) (X : HX d) (hn : n ≤ 12) (hb : b ≤ hN d) : rT d f n p b ≤ 4096 := by
  have := rT_le (f := f) W X hn (n - p) p b rfl hb
  have h2 : 2 ^ (n - p) ≤ 2 ^ 12 := Nat.pow_le_pow_right (by decide) (by omega)
  omega
theorem rB_b {d : HD} {f : Nat → Nat} {n p w : Nat} (W : HW d) (X : HX d) (hn : n ≤ 12) (hw : w < hN d) : rB d f n p w ≤ 4096 := by
  unfold rB
  split
  · exact rT_b W X hn (by omega)
  · omega
/-- the least of some from w on -/
def lst (q : Nat → Bool) : Nat → Nat → Option Nat
  | 0, _ => none
  | m + 1, w => if q w = true then some w else lst q m (w + 1)
theorem lst_t {q : Nat → Bool} {m w : Nat} (h : q w = true) : lst q (m + 1) w = some w := by
  show (if q w = true then _ else _) = _
  rw [if_pos h]
theorem lst_f {q : Nat → Bool} {m w : Nat} (h : q w = false) : lst q (m + 1) w = lst q m (w + 1) := by
  show (if q w = true then _ else _) = _
  rw [if_neg (by rw [h]; decide)]
theorem lst_some {q : Nat → Bool} : ∀ m w v, lst q m w = some v → q v = true ∧ w ≤ v ∧ v < w + m := by
  intro m
  induction m with
  | zero => intro w v h; cases h
  | succ m ih =>
    intro w v h
    cases hq : q w with
    | false =>
      rw [lst_f hq] at h
      obtain ⟨a1, a2, a3⟩ := ih _ _ h
      exact ⟨a1, by omega, by omega⟩
    | true =>
      rw [lst_t hq] at h
      cases h
      exact ⟨hq, by omega, by omega⟩
theorem lst_none {q : Nat → Bool} : ∀ m w, lst q m w = none → ∀ v, w ≤ v → v < w + m → q v = false := by
  intro m
  induction m with
  | zero => intro w _ v h1 h2; omega
  | succ m ih =>
    intro w h v h1 h2
    cases hq : q w with
    | false =>
      rw [lst_f hq] at h
      by_cases e : v = w
      · rw [e]; exact hq
      · exact ih _ h v (by omega) (by omega)
    | true => rw [lst_t hq] at h; cases h
def rQ (d : HD) (f : Nat → Nat) (n p b w : Nat) : Bool := tb (hBw d b) w && decide (rB d f n p w ≠ 0)
def rdw (d : HD) (f : Nat → Nat) (n : Nat) : Nat → Nat → Nat → Int32
  | 0, p, b => if p < n then oI (lst (rQ d f n p b) 10 0) else -1
  | i + 1, p, b => if p < n then (match lst (rQ d f n p b) 10 0 with
    | none => -1
    | some w => rdw d f n i (p + hZ d w) (w + 1)) else -1
theorem rdw_o {d : HD} {f : Nat → Nat} {n i p b : Nat} (h : n ≤ p) : rdw d f n i p b = -1 := by
  cases i with
  | zero => show (if p < n then _ else _) = _; rw [if_neg (by omega)]
  | succ i => show (if p < n then _ else _) = _; rw [if_neg (by omega)]
theorem rdw_n {d : HD} {f : Nat → Nat} {n i p b : Nat} (h : lst (rQ d f n p b) 10 0 = none) : rdw d f n i p b = -1 := by
  cases i with
  | zero =>
    show (if p < n then oI (lst (rQ d f n p b) 10 0) else -1) = _
    rw [h]; split <;> rfl
  | succ i =>
    show (if p < n then (match lst (rQ d f n p b) 10 0 with
      | none => -1
      | some w => rdw d f n i (p + hZ d w) (w + 1)) else -1) = _
    rw [h]; split <;> rfl
theorem rdw_0 {d : HD} {f : Nat → Nat} {n p b w : Nat} (hp : p < n) (h : lst (rQ d f n p b) 10 0 = some w) : rdw d f n 0 p b = nI w := by
  show (if p < n then oI (lst (rQ d f n p b) 10 0) else -1) = _
  rw [if_pos hp, h]; rfl
theorem rdw_1 {d : HD} {f : Nat → Nat} {n i p b w : Nat} (hp : p < n) (h : lst (rQ d f n p b) 10 0 = some w) : rdw d f n (i + 1) p b = rdw d f n i (p + hZ d w) (w + 1) := by
  show (if p < n then (match lst (rQ d f n p b) 10 0 with
    | none => -1
    | some w => rdw d f n i (p + hZ d w) (w + 1)) else -1) = _
  rw [if_pos hp, h]
theorem rQ_i {d : HD} {f : Nat → Nat} {n p b w : Nat} (W : HW d) (X : HX d) (hb : b ≤ hN d) (hw : w < 10) (h : rQ d f n p b w = true) : w < hN d ∧ tb (hBw d b) w = true ∧ p + hZ d w ≤ n ∧ unl d f w p = 0 ∧ rT d f n (p + hZ d w) (w + 1) ≠ 0 := by
  unfold rQ at h
  rw [Bool.and_eq_true] at h
  have h2 := of_decide_eq_true h.2
  unfold rB at h2
  cases hf : ft d f n p w with
  | false => rw [hf, if_neg (by decide)] at h2; exact absurd rfl h2
  | true =>
    obtain ⟨a1, a2⟩ := of_decide_eq_true hf
    rw [hf, if_pos rfl] at h2
    exact ⟨hBw_in W X hb (by omega) h.1, h.1, a1, a2, h2⟩
/-- what is ahead, as the class holds it -/
def bI : Nat → Int32
  | 0 => -1
  | w + 1 => nI w
section READ
variable {g : zG} {I : Nat → Nat → Int32} {P : Nat → Nat → Option Nat} {t : TD} {im : Nat → Option TD} {a : Nat} {d : HD}
theorem c_behindA {b : Nat} (T : HlS g P a) (W : HW d) (D : HlD I a d) (hb : b ≤ hN d) : Cl mX3_behind [.ref a, .int (bI b)] (g, I, P) (some (.int (hBw d b))) (g, I, P) := by
  cases b with
  | zero => exact c_behind0 T D
  | succ w => exact c_behind T W D (by omega)
theorem c_readingsBehind {n p w : Nat} {f : Nat → Nat} {e : Nat → Nat} (E : Er g I P a d n f) (X : HX d) (hp : p < 13) (hw : w < hN d) (he : ∀ v, v < hN d → I 81 (10 * p + v) = nI (e v)) : Cl mX1_readingsBehind [.ref 73, .int (nI p), .int (nI w)] (g, I, P) (some (.int (nI (nsum (fun v => if tb (hBeh d w) v = true then e v else 0) (hN d))))) (g, I, P) := by
  obtain ⟨S, Q, T, W, D, e1, -⟩ := E
  have h10 := W.2.1
  have hs : ∀ v, v < 10 → tb (hBeh d w) v = true → v < hN d := fun v hv h => hBeh_lt W X hw (by omega) h
  refine eX1_readingsBehind (wX1_readingsBehind_0 ⟨S.k 73 1 (by decide), _, e1, T.1, _, c_behind T W D hw, ?_⟩)
  generalize hBeh d w = s at hs ⊢
  have e10 := nsum_ext (f := fun v => if tb s v = true then e v else 0) (n := hN d) (10 - hN d) (fun k h1 h2 => if_neg (fun h => by have := hs k (by omega) h; omega))
  rw [show hN d + (10 - hN d) = 10 by omega] at e10
  rw [← e10]
  have key : ∀ m v, v + m = 10 → Zt none mX1_readingsBehind 0 0 15 [(0, .ref 73), (1, .int (nI p)), (3, .int s), (4, .int (nI (nsum (fun v => if tb s v = true then e v else 0) v))), (5, .int (nI v))] [] (g, I, P) (some (.int (nI (nsum (fun v => if tb s v = true then e v else 0) 10)))) (g, I, P) := by
    intro m
    induction m with
    | zero =>
      intro v hv
      obtain rfl : v = 10 := hv
      exact wX1_readingsBehind_15 ⟨fun _ => ⟨rfl, rfl⟩, fun q => absurd (by decide) q⟩
    | succ m ih =>
      intro v hv
      have ih := ih (v + 1) (by omega)
      simp only [nsum] at ih
      refine wX1_readingsBehind_15 ⟨fun q => absurd q (nI_ge (b := 10) (by omega) (by decide)), fun _ => ⟨_, c_has (by omega), zp (fun h => ?_) (fun h => ?_)⟩⟩
      · rw [if_neg (by rw [h]; decide)] at ih
        rw [nI_1]; exact ih
      · rw [if_pos h] at ih
        refine ⟨S.k 73 1 (by decide), 81, Q.p 73 3 81 (by decide), _, by rw [show nI p * 10 + nI v = nI (10 * p + v) by rw [show (10 : Int32) = nI 10 from rfl, pk_mul, nI_add, Nat.mul_comm]]; exact c_got (S.k 81 13 (by decide)) (S.l 81 130 (by decide)) (by decide) (by omega), ?_⟩
        rw [he v (hs v (by omega) h), nI_1, nI_add]; exact ih
  exact key 10 0 rfl
theorem c_countReadings {n : Nat} {f : Nat → Nat} (E : Er g I P a d n f) (X : HX d) : ∃ J, Cl mX1_countReadings [.ref 73] (g, I, P) none (g, J, P) ∧ K81 I J ∧ (∀ p w, p < n → w < hN d → J 81 (10 * p + w) = nI (rB d f n p w)) ∧ ∀ w, hN d ≤ w → w < 10 → J 81 w = 0 := by
  have E0 := E
  obtain ⟨S, Q, T, W, D, e1, e2, e3, e5, e4⟩ := E
  have h10 := W.2.1
  obtain ⟨I1, f1, f2, f3⟩ := c_fill (I := I) (P := P) (x := 0) (S.k 81 13 (by decide)) (S.l 81 130 (by decide)) (by decide)
  have key : ∀ q (K : Nat → Nat → Int32), q ≤ n → K81 I K → (∀ p w, p < q → w < hN d → K 81 (10 * p + w) = 0) → (∀ p w, q ≤ p → p < n → w < hN d → K 81 (10 * p + w) = nI (rB d f n p w)) → (∀ w, hN d ≤ w → w < 10 → K 81 w = 0) → ∃ J, Zt none mX1_countReadings 0 0 15 [(0, .ref 73), (1, .int (nI q - 1))] [] (g, K, P) none (g, J, P) ∧ K81 I J ∧ (∀ p w, p < n → w < hN d → J 81 (10 * p + w) = nI (rB d f n p w)) ∧ ∀ w, hN d ≤ w → w < 10 → J 81 w = 0 := by
    intro q
    induction q with
    | zero =>
      intro K _ hK h1 h2 h3
      exact ⟨K, wX1_countReadings_15 ⟨fun _ => ⟨rfl, rfl⟩, fun q => absurd (by decide) q⟩, hK, fun p w => h2 p w (by omega), h3⟩
    | succ q ih =>
      intro K hq hK h1 h2 h3
      have inner : ∀ m w (K : Nat → Nat → Int32), w + m = hN d → K81 I K → (∀ p v, p < q → v < hN d → K 81 (10 * p + v) = 0) → (∀ v, w ≤ v → v < hN d → K 81 (10 * q + v) = 0) → (∀ v, v < w → K 81 (10 * q + v) = nI (rB d f n q v)) → (∀ p v, q + 1 ≤ p → p < n → v < hN d → K 81 (10 * p + v) = nI (rB d f n p v)) → (∀ w, hN d ≤ w → w < 10 → K 81 w = 0) → ∃ J, Zt none mX1_countReadings 0 0 21 [(0, .ref 73), (1, .int (nI q)), (2, .int (nI w))] [] (g, K, P) none (g, J, P) ∧ K81 I J ∧ (∀ p w, p < n → w < hN d → J 81 (10 * p + w) = nI (rB d f n p w)) ∧ ∀ w, hN d ≤ w → w < 10 → J 81 w = 0 := by
        intro m
        induction m with
        | zero =>
          intro w K hw hK a1 a2 a3 a4 a5
          obtain rfl : w = hN d := hw
          have DK := (E0.k81 hK).2.2.2.2.1
          obtain ⟨J, z, z2⟩ := ih K (by omega) hK a1 (fun p v p1 p2 p3 => by
            by_cases hpq : p = q
            · subst hpq; exact a3 v p3
            · exact a4 p v (by omega) p2 p3) a5
          exact ⟨J, wX1_countReadings_21 ⟨S.k 73 1 (by decide), _, e1, T.1, fun _ => by rw [nI_a1]; exact z, fun q => absurd (by rw [DK.2.1]; exact Int32.le_refl _) q⟩, z2⟩
        | succ m ihw =>
          intro w K hw hK a1 a2 a3 a4 a5
          have EK := E0.k81 hK
          obtain ⟨-, -, -, -, DK, -, k2, -, -, k4⟩ := EK
          have EK := E0.k81 hK
          have hz := W.2.2.1 w (by omega)
          have nb : ¬ K a 1 ≤ nI w := by rw [DK.2.1]; exact nI_ge (by omega) (by omega)
          have skip : rB d f n q w = 0 → ∃ J, Zt none mX1_countReadings 0 0 21 [(0, .ref 73), (1, .int (nI q)), (2, .int (nI w + 1))] [] (g, K, P) none (g, J, P) ∧ K81 I J ∧ (∀ p w, p < n → w < hN d → J 81 (10 * p + w) = nI (rB d f n p w)) ∧ ∀ w, hN d ≤ w → w < 10 → J 81 w = 0 := by
            intro h0
            rw [nI_1]
            exact ihw (w + 1) K (by omega) hK a1 (fun v v1 v2 => a2 v (by omega) v2) (fun v hv => by
              by_cases hvw : v = w
              · subst hvw
                rw [a2 v (Nat.le_refl _) (by omega), h0]; rfl
              · exact a3 v (by omega)) a4 a5
          by_cases hfit : q + hZ d w ≤ n
          · have ca := c_changesAt (w := w) (o := q) (n := hZ d w) (v := fun k => f (q + k)) T W DK (by omega) (Nat.le_refl _) (S.k 80 13 (by decide)) (S.l 80 12 (by decide)) (by decide) (by omega) (fun k hk => ⟨(k4 (q + k) (by omega)).1, by have := (k4 (q + k) (by omega)).2; omega⟩)
            have ul := unl_le d f w q
            by_cases hu : unl d f w q = 0
            · have eb : rB d f n q w = rT d f n (q + hZ d w) (w + 1) := rB_t hfit hu
              obtain ⟨J, z, z2⟩ := ihw (w + 1) (zU K 81 (10 * q + w) (nI (rB d f n q w))) (by omega) (hK.u _ _) (fun p v p1 p2 => by rw [zU_k _ _ (by omega)]; exact a1 p v p1 p2) (fun v v1 v2 => by rw [zU_k _ _ (by omega)]; exact a2 v (by omega) v2) (fun v hv => by
                by_cases hvw : v = w
                · subst hvw; rw [zU_s]
                · rw [zU_k _ _ (by omega)]; exact a3 v (by omega)) (fun p v p1 p2 p3 => by rw [zU_k _ _ (by omega)]; exact a4 p v p1 p2 p3) (fun v v1 v2 => by rw [zU_k _ _ (by omega)]; exact a5 v v1 v2)
              have ix10 : nI q * 10 + nI w = nI (10 * q + w) := by rw [show (10 : Int32) = nI 10 from rfl, pk_mul, nI_add, Nat.mul_comm]
              refine ⟨J, wX1_countReadings_21 ⟨S.k 73 1 (by decide), _, e1, T.1, fun q => absurd q nb, fun _ => ⟨S.k 73 1 (by decide), _, e1, T.1, _, c_sizeOf T W DK (by omega), S.k 73 1 (by decide), pk_lt n (q + hZ d w) (fun h => absurd hfit (by omega)) (fun _ => ⟨S.k 73 1 (by decide), _, e1, S.k 73 1 (by decide), 80, Q.p 73 2 80 (by decide), S.k 73 1 (by decide), _, e1, T.1, _, c_sizeOf T W DK (by omega), T.1, _, ca, fun h => absurd (congrArg nI hu) h, fun _ => ⟨S.k 73 1 (by decide), 81, Q.p 73 3 81 (by decide), S.k 73 1 (by decide), pq_eq (q + hZ d w) n (fun he => ⟨S.k 73 1 (by decide), _, by rw [nI_add]; exact c_readingsBehind (e := rB d f n (q + hZ d w)) EK X (by omega) (by omega) (fun v hv => a4 _ v (by omega) (by omega) hv), _, by rw [ix10]; exact c_put (S.k 81 13 (by decide)) (S.l 81 130 (by decide)) (by decide) (by omega), ?_⟩) (fun he => ⟨_, by rw [ix10]; exact c_put (S.k 81 13 (by decide)) (S.l 81 130 (by decide)) (by decide) (by omega), ?_⟩) (by rw [nI_add]) k2⟩⟩) k2 (by rw [nI_add])⟩⟩, z2⟩
              · rw [eb, rT_s (b := w + 1) W e3 (by omega)] at z
                rw [nI_1]; exact z
              · rw [eb, rT_n (by omega)] at z
                rw [nI_1]; exact z
            · obtain ⟨J, z, z2⟩ := skip (rB_z (fun h => hu h.2))
              refine ⟨J, wX1_countReadings_21 ⟨S.k 73 1 (by decide), _, e1, T.1, fun q => absurd q nb, fun _ => ⟨S.k 73 1 (by decide), _, e1, T.1, _, c_sizeOf T W DK (by omega), S.k 73 1 (by decide), pk_lt n (q + hZ d w) (fun h => absurd hfit (by omega)) (fun _ => ⟨S.k 73 1 (by decide), _, e1, S.k 73 1 (by decide), 80, Q.p 73 2 80 (by decide), S.k 73 1 (by decide), _, e1, T.1, _, c_sizeOf T W DK (by omega), T.1, _, ca, fun _ => z, fun h => absurd ((nI_eq (b := 0) (by show unl d f w q < 2 ^ 31; omega) (by decide)).mp h) hu⟩) k2 (by rw [nI_add])⟩⟩, z2⟩
          · obtain ⟨J, z, z2⟩ := skip (rB_z (fun h => hfit h.1))
            exact ⟨J, wX1_countReadings_21 ⟨S.k 73 1 (by decide), _, e1, T.1, fun q => absurd q nb, fun _ => ⟨S.k 73 1 (by decide), _, e1, T.1, _, c_sizeOf T W DK (by omega), S.k 73 1 (by decide), pk_lt n (q + hZ d w) (fun _ => z) (fun h => absurd h (by omega)) k2 (by rw [nI_add])⟩⟩, z2⟩
      obtain ⟨J, z, z2⟩ := inner (hN d) 0 K (by omega) hK (fun p v p1 p2 => h1 p v (by omega) p2) (fun v _ v2 => h1 q v (by omega) v2) (fun v hv => by omega) h2 h3
      rw [nI_d1]
      exact ⟨J, wX1_countReadings_15 ⟨fun q => absurd q (nI_pos (by omega)), fun _ => z⟩, z2⟩
  have hI1 : K81 I I1 := f3
  obtain ⟨J, z, z2⟩ := key n I1 (Nat.le_refl _) hI1 (fun p w hp hw => f2 _ (by omega)) (fun p w h1 h2 => by omega) (fun w _ hw => f2 _ (by omega))
  refine ⟨J, eX1_countReadings (wX1_countReadings_0 ⟨S.k 73 1 (by decide), 81, Q.p 73 3 81 (by decide), _, f1, S.k 73 1 (by decide), ?_⟩), z2⟩
  rw [hI1 73 (by decide), e2]; exact z
theorem c_readings {n : Nat} {f : Nat → Nat} (E : Er g I P a d n f) (X : HX d) (hn1 : 1 ≤ n) : ∃ J, Cl mX1_readings [.ref 73] (g, I, P) (some (.int (nI (rT d f n 0 0)))) (g, J, P) ∧ K81 I J := by
  obtain ⟨J, z, hJ, h1, h2⟩ := c_countReadings E X
  obtain ⟨S, Q, T, W, D, e1, e2, e3, e5, e4⟩ := E
  have h10 := W.2.1
  refine ⟨J, eX1_readings (wX1_readings_0 ⟨S.k 73 1 (by decide), _, z, ?_⟩), hJ⟩
  have e0 : rT d f n 0 0 = nsum (fun w => if w < hN d then rB d f n 0 w else 0) 10 := by
    have x1 := nsum_ext (f := fun w => if w < hN d then rB d f n 0 w else 0) (n := hN d) (10 - hN d) (fun k h1 h2 => if_neg (by omega))
    rw [show hN d + (10 - hN d) = 10 by omega] at x1
    rw [x1, rT_s (b := 0) W e3 (by omega)]
    apply nsum_congr
    intro w hw
    rw [if_pos hw, if_pos (show tb (hBw d 0) w = true by show tb (hAll d) w = true; rw [tb_all W (by omega)]; exact decide_eq_true hw)]
  rw [e0]
  have key : ∀ m w, w + m = 10 → Zt none mX1_readings 0 0 8 [(0, .ref 73), (1, .int (nI (nsum (fun w => if w < hN d then rB d f n 0 w else 0) w))), (2, .int (nI w))] [] (g, J, P) (some (.int (nI (nsum (fun w => if w < hN d then rB d f n 0 w else 0) 10)))) (g, J, P) := by
    intro m
    induction m with
    | zero =>
      intro w hw
      obtain rfl : w = 10 := hw
      exact wX1_readings_8 ⟨fun _ => ⟨rfl, rfl⟩, fun q => absurd (by decide) q⟩
    | succ m ih =>
      intro w hw
      have ih := ih (w + 1) (by omega)
      simp only [nsum] at ih
      refine wX1_readings_8 ⟨fun q => absurd q (nI_ge (b := 10) (by omega) (by decide)), fun _ => ⟨S.k 73 1 (by decide), 81, Q.p 73 3 81 (by decide), _, c_got (S.k 81 13 (by decide)) (S.l 81 130 (by decide)) (by decide) (by omega), ?_⟩⟩
      have e : J 81 w = nI (if w < hN d then rB d f n 0 w else 0) := by
        by_cases h : w < hN d
        · rw [if_pos h]; have := h1 0 w (by omega) h; rw [show 10 * 0 + w = w by omega] at this; exact this
        · rw [if_neg h]; exact h2 w (by omega) (by omega)
      rw [e, nI_1, nI_add]; exact ih
  exact key 10 0 rfl
theorem c_leastReadAt {n p b : Nat} {f : Nat → Nat} (E : Er g I P a d n f) (X : HX d) (hp : p ≤ n) (hb : b ≤ hN d) (h : ∀ p w, p < n → w < hN d → I 81 (10 * p + w) = nI (rB d f n p w)) : Cl mX1_leastReadAt [.ref 73, .int (nI p), .int (bI b)] (g, I, P) (some (.int (if p < n then oI (lst (rQ d f n p b) 10 0) else -1))) (g, I, P) := by
  obtain ⟨S, Q, T, W, D, e1, e2, e3, e5, e4⟩ := E
  refine eX1_leastReadAt (wX1_leastReadAt_0 ⟨S.k 73 1 (by decide), _, e1, T.1, _, c_behindA T W D hb, ?_⟩)
  by_cases hpn : p < n
  · rw [if_pos hpn]
    have key : ∀ m w, w + m = 10 → Zt none mX1_leastReadAt 0 0 12 [(0, .ref 73), (1, .int (nI p)), (3, .int (hBw d b)), (4, .int (nI w))] [] (g, I, P) (some (.int (oI (lst (rQ d f n p b) m w)))) (g, I, P) := by
      intro m
      induction m with
      | zero =>
        intro w hw
        obtain rfl : w = 10 := hw
        exact wX1_leastReadAt_12 ⟨fun _ => ⟨rfl, rfl⟩, fun q => absurd (by decide) q⟩
      | succ m ih =>
        intro w hw
        have ih := ih (w + 1) (by omega)
        refine wX1_leastReadAt_12 ⟨fun q => absurd q (nI_ge (b := 10) (by omega) (by decide)), fun _ => ⟨S.k 73 1 (by decide), fun q => ?_, fun _ => ⟨_, c_has (by omega), zp (fun h1 => ?_) (fun h1 => ?_)⟩⟩⟩
        · rw [e2] at q
          exact absurd q (nI_ge (by omega) (by omega))
        · rw [lst_f (by unfold rQ; rw [h1, Bool.false_and]), nI_1]; exact ih
        · have hwd := hBw_in W X hb (show w < 31 by omega) h1
          have rb := rB_b (f := f) (n := n) (p := p) W X e3 hwd
          refine ⟨S.k 73 1 (by decide), 81, Q.p 73 3 81 (by decide), _, by rw [show nI p * 10 + nI w = nI (10 * p + w) by rw [show (10 : Int32) = nI 10 from rfl, pk_mul, nI_add, Nat.mul_comm]]; exact c_got (S.k 81 13 (by decide)) (S.l 81 130 (by decide)) (by decide) (by omega), pk_le (rB d f n p w) 0 (fun h2 => ?_) (fun h2 => ⟨?_, rfl⟩) (h p w hpn hwd) rfl⟩
          · rw [lst_f (by unfold rQ; rw [decide_eq_false (fun h => h (by omega)), Bool.and_false]), nI_1]; exact ih
          · rw [lst_t (by unfold rQ; rw [h1, decide_eq_true (by omega)]; rfl)]; rfl
    exact key 10 0 rfl
  · rw [if_neg hpn]
    refine wX1_leastReadAt_12 ⟨fun q => absurd q (by decide), fun _ => ⟨S.k 73 1 (by decide), fun _ => ⟨rfl, rfl⟩, fun q => absurd (by rw [e2]; exact nI_le (by omega) (by omega)) q⟩⟩
theorem c_firstReading {n : Nat} {f : Nat → Nat} {x : Int32} (E : Er g I P a d n f) (X : HX d) : ∃ J, Cl mX1_wordOfFirstReading [.ref 73, .int x] (g, I, P) (some (.int (if x < 0 then -1 else rdw d f n x.toNatClampNeg 0 0))) (g, J, P) ∧ K81 I J := by
  have E0 := E
  obtain ⟨J, z, hJ, h1, -⟩ := c_countReadings E X
  obtain ⟨S, Q, T, W, D, e1, e2, e3, e5, e4⟩ := E
  have EJ := E0.k81 hJ
  have DJ := EJ.2.2.2.2.1
  have h10 := W.2.1
  refine ⟨J, eX1_wordOfFirstReading (wX1_wordOfFirstReading_0 ⟨S.k 73 1 (by decide), _, z, ?_⟩), hJ⟩
  by_cases hx : x < 0
  · rw [if_pos hx]
    have hx12 : ¬ (12 : Int32) ≤ x := Int32.not_le.mpr (Int32.lt_trans hx (by decide))
    exact wX1_wordOfFirstReading_11 ⟨fun _ => ⟨fun q => absurd q hx12, fun _ => ⟨rfl, rfl⟩⟩, fun q => absurd hx q⟩
  · obtain ⟨i, hi, rfl⟩ := nI_of hx
    rw [if_neg hx, nI_clamp hi]
    have key : ∀ m k p b, k + m = 12 → k ≤ i → k ≤ p → p ≤ n → b ≤ hN d → Zt none mX1_wordOfFirstReading 0 0 11 [(0, .ref 73), (1, .int (nI i)), (2, .int (nI p)), (3, .int (bI b)), (4, .int (nI k))] [] (g, J, P) (some (.int (rdw d f n (i - k) p b))) (g, J, P) := by
      intro m
      induction m with
      | zero =>
        intro k p b hk hki hkp hp hb
        obtain rfl : k = 12 := hk
        refine wX1_wordOfFirstReading_11 ⟨fun q => absurd q (nI_nlt (by omega) (by omega)), fun _ => ⟨fun _ => ⟨fun _ => ⟨by rw [rdw_o (by omega)], rfl⟩, fun q => absurd (nI_le (a := 12) (by omega) (by omega)) q⟩, fun q => absurd (by decide) q⟩⟩
      | succ m ih =>
        intro k p b hk hki hkp hp hb
        have cl := c_leastReadAt EJ X hp hb h1
        refine wX1_wordOfFirstReading_11 ⟨fun q => absurd q (nI_nlt (by omega) (by omega)), fun _ => ⟨fun q => absurd q (nI_ge (b := 12) (by omega) (by decide)), fun _ => ⟨S.k 73 1 (by decide), _, cl, ?_⟩⟩⟩
        by_cases hpn : p < n
        · rw [if_pos hpn]
          cases hl : lst (rQ d f n p b) 10 0 with
          | none => exact ⟨fun q => absurd rfl q, fun _ => ⟨by rw [rdw_n hl], rfl⟩⟩
          | some w =>
            obtain ⟨l1, -, l3⟩ := lst_some _ _ _ hl
            obtain ⟨q1, -, q3, -⟩ := rQ_i W X hb (by omega) l1
            have z1 := (W.2.2.1 w q1).1
            refine ⟨fun _ => ⟨S.k 73 1 (by decide), _, e1, T.1, _, c_sizeOf T W DJ q1, ?_⟩, fun q => absurd q (nI_m1' (by omega))⟩
            rw [nI_add, nI_1]
            by_cases he : k = i
            · subst he
              rw [show k - k = 0 by omega, rdw_0 hpn hl]
              exact wX1_wordOfFirstReading_11 ⟨fun _ => ⟨fun q => absurd q (nI_ge (b := 12) (by omega) (by decide)), fun _ => ⟨rfl, rfl⟩⟩, fun q => absurd (nI_lt (by omega) (by omega)) q⟩
            · rw [show i - k = (i - (k + 1)) + 1 by omega, rdw_1 hpn hl]
              exact ih (k + 1) (p + hZ d w) (w + 1) (by omega) (by omega) (by omega) q3 (by omega)
        · rw [if_neg hpn]
          exact ⟨fun q => absurd rfl q, fun _ => ⟨by rw [rdw_o (by omega)], rfl⟩⟩
    exact key 12 0 0 0 rfl (by omega) (by omega) (by omega) (by omega)
theorem r_lays {n h0 l0 : Nat} {f : Nat → Nat} (S : Sg g) (Q : Sp P) (W : HW d) (D : MhD I h0 d) (E : MeD I l0 n f) (hn : n ≤ 12) (hf : ∀ k, k < n → f k < 6) : ∃ J, Cl mX12_laysReadings [.ref 95] (g, I, P) none (g, J, P) ∧ Kw I J ∧ ∀ p b, p ≤ n → b ≤ hN d → J 107 (11 * p + b) = nI (rT d f n p b) := by
  have h10 := W.2.1
  have key : ∀ q (K : Nat → Nat → Int32), q ≤ n + 1 → Kw I K → (∀ p b, q ≤ p → p ≤ n → b ≤ hN d → K 107 (11 * p + b) = nI (rT d f n p b)) → ∃ J, Zt none mX12_laysReadings 0 0 5 [(0, .ref 95), (1, .int (nI q - 1))] [] (g, K, P) none (g, J, P) ∧ Kw I J ∧ ∀ p b, p ≤ n → b ≤ hN d → J 107 (11 * p + b) = nI (rT d f n p b) := by
    intro q
    induction q with
    | zero =>
      intro K _ hK h2
      exact ⟨K, wX12_laysReadings_5 ⟨fun _ => ⟨rfl, rfl⟩, fun q => absurd (by decide) q⟩, hK, fun p b => h2 p b (by omega)⟩
    | succ q ih =>
      intro K hq hK h2
      have inner : ∀ m b (K : Nat → Nat → Int32), b + m = hN d + 1 → Kw I K → (∀ c, c < b → K 107 (11 * q + c) = nI (rT d f n q c)) → (∀ p b, q + 1 ≤ p → p ≤ n → b ≤ hN d → K 107 (11 * p + b) = nI (rT d f n p b)) → ∃ J, Zt none mX12_laysReadings 0 0 11 [(0, .ref 95), (1, .int (nI q)), (2, .int (nI b))] [] (g, K, P) none (g, J, P) ∧ Kw I J ∧ ∀ p b, p ≤ n → b ≤ hN d → J 107 (11 * p + b) = nI (rT d f n p b) := by
        intro m
        induction m with
        | zero =>
          intro b K hb hK a1 a2
          obtain rfl : b = hN d + 1 := hb
          obtain ⟨J, z, z2⟩ := ih K (by omega) hK (fun p b p1 p2 p3 => by
            by_cases hpq : p = q
            · subst hpq; exact a1 b (by omega)
            · exact a2 p b (by omega) p2 p3)
          exact ⟨J, wX12_laysReadings_11 ⟨S.k 95 12 (by decide), fun _ => by rw [nI_a1]; exact z, fun q => absurd (by rw [(hK.h D).2.2.2.1]; exact nI_lt (by omega) (by omega)) q⟩, z2⟩
        | succ m ihb =>
          intro b K hb hK a1 a2
          have DK := hK.h D
          have EK := hK.e E
          obtain ⟨u1, u2⟩ := ix (x := 11 * nI q + nI b) (k := 11 * q + b) (N := 143) (by rw [show (11 : Int32) = nI 11 from rfl, pk_mul, nI_add]) (by omega) (by decide)
          obtain ⟨J, z, z2⟩ := ihb (b + 1) (zU K 107 (11 * q + b) (nI (rT d f n q b))) (by omega) (hK.u _ _) (fun c hc => by
            by_cases hcb : c = b
            · subst hcb; rw [zU_s]
            · rw [zU_k _ _ (by omega)]; exact a1 c (by omega)) (fun p c p1 p2 p3 => by rw [zU_k _ _ (by omega)]; exact a2 p c p1 p2 p3)
          have nb : ¬ K 95 15 < nI b := by rw [DK.2.2.2.1]; exact nI_nlt (by omega) (by omega)
          by_cases hqn : q = n
          · rw [rT_n (by omega)] at z
            have st : Zt none mX12_laysReadings 0 0 36 [(0, .ref 95), (1, .int (nI q)), (2, .int (nI b)), (3, .int 1), (4, .int 0)] [] (g, K, P) none (g, J, P) := wX12_laysReadings_36 ⟨S.k 95 12 (by decide), fun _ => ⟨S.k 95 12 (by decide), 107, Q.p 95 28 107 (by decide), S.k 107 13 (by decide), by rw [S.l 107 143 (by decide)]; exact u1, by rw [u2, nI_1]; exact z⟩, fun _ => ⟨S.k 95 12 (by decide), fun _ => ⟨S.k 95 12 (by decide), 107, Q.p 95 28 107 (by decide), S.k 107 13 (by decide), by rw [S.l 107 143 (by decide)]; exact u1, by rw [u2, nI_1]; exact z⟩, fun h => absurd (by rw [EK.2.2.1, hqn]; exact Int32.le_refl _) h⟩⟩
            exact ⟨J, wX12_laysReadings_11 ⟨S.k 95 12 (by decide), fun h => absurd h nb, fun _ => ⟨S.k 95 12 (by decide), pq_eq q n (fun h => absurd hqn h) (fun _ => st) rfl EK.2.2.1⟩⟩, z2⟩
          · have em := rT_s (f := f) (b := b) W hn (show q < n by omega)
            have fold : ∀ m w, w + m = hN d → Zt none mX12_laysReadings 0 0 36 [(0, .ref 95), (1, .int (nI q)), (2, .int (nI b)), (3, .int (nI (nsum (fun w => if tb (hBw d b) w = true then rB d f n q w else 0) w))), (4, .int (nI w))] [] (g, K, P) none (g, J, P) := by
              intro m
              induction m with
              | zero =>
                intro w hw
                obtain rfl : w = hN d := hw
                rw [em] at z
                exact wX12_laysReadings_36 ⟨S.k 95 12 (by decide), fun _ => ⟨S.k 95 12 (by decide), 107, Q.p 95 28 107 (by decide), S.k 107 13 (by decide), by rw [S.l 107 143 (by decide)]; exact u1, by rw [u2, nI_1]; exact z⟩, fun h => absurd (by rw [DK.2.2.2.1]; exact Int32.le_refl _) h⟩
              | succ m ihw =>
                intro w hw
                have ihw := ihw (w + 1) (by omega)
                simp only [nsum] at ihw
                have hz := W.2.2.1 w (by omega)
                have ul := unl_le d f w q
                refine wX12_laysReadings_36 ⟨S.k 95 12 (by decide), fun h => ?_, fun _ => ⟨S.k 95 12 (by decide), fun h => ?_, fun _ => ⟨S.k 95 12 (by decide), _, r_behindA S Q W DK (by omega), _, r_holds, zp (fun h => ?_) (fun h => ⟨S.k 95 12 (by decide), _, r_unlike S Q W DK EK hn hf (by omega) (by omega), ?_⟩)⟩⟩⟩
                · rw [DK.2.2.2.1] at h
                  exact absurd h (nI_ge (by omega) (by omega))
                · rw [EK.2.2.1] at h
                  exact absurd h (nI_ge (by omega) (by omega))
                · rw [if_neg (by rw [h]; decide)] at ihw
                  rw [nI_1]; exact ihw
                · rw [if_pos h] at ihw
                  by_cases hfit : q + hZ d w ≤ n
                  · rw [if_pos hfit]
                    obtain ⟨v1, v2⟩ := ix (x := 11 * (nI q + nI (hZ d w)) + nI w + 1) (k := 11 * (q + hZ d w) + w + 1) (N := 143) (by rw [nI_add, show (11 : Int32) = nI 11 from rfl, pk_mul, nI_add, nI_1]) (by omega) (by decide)
                    refine pq_eq (unl d f w q) 0 (fun hu => ?_) (fun hu => ⟨S.k 95 12 (by decide), 107, Q.p 95 28 107 (by decide), S.k 95 12 (by decide), _, r_longOf S Q W DK (by omega), S.k 107 13 (by decide), by rw [S.l 107 143 (by decide)]; exact v1, fun y hy => ?_⟩)
                    · rw [rB_z (fun h => hu h.2)] at ihw
                      rw [nI_1]; exact ihw
                    · rw [v2, Nat.add_assoc, a2 (q + hZ d w) (w + 1) (by omega) hfit (by omega), nI_add] at hy
                      rw [rB_t hfit hu] at ihw
                      rw [hy, nI_1]; exact ihw
                  · rw [rB_z (fun h => hfit h.1)] at ihw
                    rw [if_neg hfit]
                    exact ⟨fun _ => by rw [nI_1]; exact ihw, fun h => absurd h (by decide)⟩
            exact ⟨J, wX12_laysReadings_11 ⟨S.k 95 12 (by decide), fun h => absurd h nb, fun _ => ⟨S.k 95 12 (by decide), pq_eq q n (fun _ => fold (hN d) 0 (by omega)) (fun h => absurd h hqn) rfl EK.2.2.1⟩⟩, z2⟩
      obtain ⟨J, z, z2⟩ := inner (hN d + 1) 0 K (by omega) hK (fun c hc => by omega) h2
      rw [nI_d1]
      exact ⟨J, wX12_laysReadings_5 ⟨fun q => absurd q (nI_pos (by omega)), fun _ => z⟩, z2⟩
  obtain ⟨J, z, z2⟩ := key (n + 1) I (Nat.le_refl _) (Kw.rf I) (fun p b h1 h2 => by omega)
  rw [nI_d1] at z
  exact ⟨J, eX12_laysReadings (wX12_laysReadings_0 ⟨S.k 95 12 (by decide), by rw [E.2.2.1]; exact z⟩), z2⟩
theorem r_firstReading {n h0 l0 i : Nat} {f : Nat → Nat} (S : Sg g) (Q : Sp P) (W : HW d) (X : HX d) (D : MhD I h0 d) (E : MeD I l0 n f) (hn : n ≤ 12) (hn1 : 1 ≤ n) (hf : ∀ k, k < n → f k < 6) (hi : i < 2 ^ 31) (h : ∀ p b, p ≤ n → b ≤ hN d → I 107 (11 * p + b) = nI (rT d f n p b)) : Zt none mX12_reading 0 0 51 [(0, .ref 95), (4, .int (nI i)), (5, .int 0), (6, .int 0), (7, .int 0)] [] (g, I, P) (some (.int (rdw d f n i 0 0))) (g, I, P) := by
  have h10 := W.2.1
  obtain ⟨o1, o2⟩ := ix (x := 0) (k := 0) (N := 143) rfl (by decide) (by decide)
  have e0 : I 107 (0 : Int32).toNatClampNeg = nI (rT d f n 0 0) := by rw [o2]; exact h 0 0 (by omega) (by omega)
  have r0 := rT_b (f := f) (n := n) (p := 0) (b := 0) W X hn (by omega)
  by_cases hz : rT d f n 0 0 = 0
  · have hl : lst (rQ d f n 0 0) 10 0 = none := by
      cases hl : lst (rQ d f n 0 0) 10 0 with
      | none => rfl
      | some w =>
        exfalso
        obtain ⟨l1, -, l3⟩ := lst_some _ _ _ hl
        obtain ⟨q1, q2, -⟩ := rQ_i W X (by omega) (by omega) l1
        rw [rT_s W hn (by omega)] at hz
        have := nsum_0 _ hz w q1
        rw [if_pos q2] at this
        unfold rQ at l1
        rw [this, Bool.and_eq_true] at l1
        exact absurd l1.2 (by decide)
    rw [rdw_n hl]
    refine wX12_reading_51 ⟨S.k 95 12 (by decide), fun _ => ⟨rfl, rfl⟩, fun _ => ⟨S.k 95 12 (by decide), 107, Q.p 95 28 107 (by decide), S.k 107 13 (by decide), by rw [S.l 107 143 (by decide)]; exact o1, fun _ => ⟨rfl, rfl⟩, fun q => absurd (by rw [e0, hz]; decide) q⟩⟩
  · have key : ∀ m p b k, p + m = n → k ≤ i → k ≤ p → b ≤ hN d → rT d f n p b ≠ 0 → Zt none mX12_reading 0 0 51 [(0, .ref 95), (4, .int (nI i)), (5, .int (nI p)), (6, .int (nI b)), (7, .int (nI k))] [] (g, I, P) (some (.int (rdw d f n (i - k) p b))) (g, I, P) := by
      intro m
      induction m using Nat.strongRecOn with
      | ind m ih =>
        intro p b k hp hk hkp hb hr
        by_cases hm : m = 0
        · rw [rdw_o (by omega)]
          exact wX12_reading_51 ⟨S.k 95 12 (by decide), fun _ => ⟨rfl, rfl⟩, fun q => absurd (by rw [E.2.2.1]; exact nI_le (by omega) (by omega)) q⟩
        · refine wX12_reading_51 ⟨S.k 95 12 (by decide), fun q => ?_, fun _ => ⟨S.k 95 12 (by decide), 107, Q.p 95 28 107 (by decide), S.k 107 13 (by decide), by rw [S.l 107 143 (by decide)]; exact o1, pk_le (rT d f n 0 0) 0 (fun q => absurd q (by omega)) (fun _ => ?_) e0 rfl⟩⟩
          · rw [E.2.2.1] at q
            exact absurd q (nI_ge (by omega) (by omega))
          · have hl : lst (rQ d f n p b) 10 0 ≠ none := by
              intro hl
              rw [rT_s W hn (by omega)] at hr
              obtain ⟨w, w1, w2⟩ := nsum_pos _ hr
              have := lst_none _ _ hl w (by omega) (by omega)
              unfold rQ at this
              cases ht : tb (hBw d b) w with
              | false => rw [ht] at w2; exact absurd rfl w2
              | true =>
                rw [ht, Bool.true_and] at this
                rw [ht, if_pos rfl] at w2
                exact absurd w2 (of_decide_eq_false this)
            cases hv : lst (rQ d f n p b) 10 0 with
            | none => exact absurd hv hl
            | some v =>
              have walk : ∀ m w, w + m = 10 → lst (rQ d f n p b) m w = some v → Zt none mX12_reading 0 0 72 [(0, .ref 95), (4, .int (nI i)), (5, .int (nI p)), (6, .int (nI b)), (7, .int (nI k)), (8, .int (nI w))] [] (g, I, P) (some (.int (rdw d f n (i - k) p b))) (g, I, P) := by
                intro m
                induction m with
                | zero => intro w _ h; cases h
                | succ m ihw =>
                  intro w hw hl
                  cases hq : rQ d f n p b w with
                  | true =>
                    rw [lst_t hq] at hl
                    obtain rfl : w = v := Option.some.inj hl
                    obtain ⟨q1, q2, q3, q4, q5⟩ := rQ_i W X hb (by omega) hq
                    have z1 := W.2.2.1 w q1
                    have rb := rT_b (f := f) (n := n) (p := p + hZ d w) (b := w + 1) W X hn (by omega)
                    obtain ⟨v1, v2⟩ := ix (x := 11 * (nI p + nI (hZ d w)) + nI w + 1) (k := 11 * (p + hZ d w) + w + 1) (N := 143) (by rw [nI_add, show (11 : Int32) = nI 11 from rfl, pk_mul, nI_add, nI_1]) (by omega) (by decide)
                    have ru := r_unlike S Q W D E hn hf q1 (show p ≤ 12 by omega)
                    rw [if_pos q3, q4] at ru
                    refine wX12_reading_72 ⟨S.k 95 12 (by decide), _, r_behindA S Q W D hb, _, r_holds, fun q => ?_, fun _ => ⟨S.k 95 12 (by decide), _, ru, fun q => absurd rfl q, fun _ => ⟨S.k 95 12 (by decide), 107, Q.p 95 28 107 (by decide), S.k 95 12 (by decide), _, r_longOf S Q W D q1, S.k 107 13 (by decide), by rw [S.l 107 143 (by decide)]; exact v1, fun _ => pq_eq k i (fun hki => ⟨S.k 95 12 (by decide), _, r_longOf S Q W D q1, ?_⟩) (fun hki => ⟨?_, rfl⟩), fun q => ?_⟩⟩⟩
                    · rw [q2] at q; exact absurd q (by decide)
                    · rw [nI_add, nI_1, nI_1, show i - k = (i - (k + 1)) + 1 by omega, rdw_1 (by omega) hv]
                      exact ih (n - (p + hZ d w)) (by omega) (p + hZ d w) (w + 1) (k + 1) (by omega) (by omega) (by omega) (by omega) q5
                    · rw [hki, show i - i = 0 by omega, rdw_0 (by omega) hv]
                    · rw [v2, Nat.add_assoc, h (p + hZ d w) (w + 1) q3 (by omega)] at q
                      exact absurd ((nI_eq (b := 0) (by omega) (by decide)).mp q) q5
                  | false =>
                    rw [lst_f hq] at hl
                    have nx := ihw (w + 1) (by omega) hl
                    rw [← nI_1] at nx
                    refine wX12_reading_72 ⟨S.k 95 12 (by decide), _, r_behindA S Q W D hb, _, r_holds, zp (fun _ => nx) (fun h1 => ?_)⟩
                    have hwd := hBw_in W X hb (show w < 31 by omega) h1
                    have z1 := W.2.2.1 w hwd
                    have ul := unl_le d f w p
                    refine ⟨S.k 95 12 (by decide), _, r_unlike S Q W D E hn hf hwd (show p ≤ 12 by omega), ?_⟩
                    by_cases hfit : p + hZ d w ≤ n
                    · rw [if_pos hfit]
                      obtain ⟨v1, v2⟩ := ix (x := 11 * (nI p + nI (hZ d w)) + nI w + 1) (k := 11 * (p + hZ d w) + w + 1) (N := 143) (by rw [nI_add, show (11 : Int32) = nI 11 from rfl, pk_mul, nI_add, nI_1]) (by omega) (by decide)
                      refine pq_eq (unl d f w p) 0 (fun hu => nx) (fun hu => ⟨S.k 95 12 (by decide), 107, Q.p 95 28 107 (by decide), S.k 95 12 (by decide), _, r_longOf S Q W D hwd, S.k 107 13 (by decide), by rw [S.l 107 143 (by decide)]; exact v1, fun q => ?_, fun _ => nx⟩)
                      exfalso
                      apply q
                      rw [v2, Nat.add_assoc, h (p + hZ d w) (w + 1) hfit (by omega)]
                      unfold rQ at hq
                      rw [h1, Bool.true_and] at hq
                      have hq := of_decide_eq_false hq
                      rw [rB_t hfit hu] at hq
                      rw [Decidable.not_not.mp hq]; rfl
                    · rw [if_neg hfit]
                      exact ⟨fun _ => nx, fun q => absurd q (by decide)⟩
              exact walk 10 0 rfl hv
    exact key n 0 0 0 (by omega) (by omega) (by omega) (by omega) hz
theorem b_reading (L : LI g I P t im) (x1 x2 x3 x4 : Int32) : ∃ (w : Int32) (I1 : Nat → Nat → Int32) (P1 : Nat → Nat → Option Nat) (J : Nat → Nat → Int32), Cl mX11_reading [.ref 0, .int x1, .int x2, .int x3, .int x4] (g, I, P) (some (.int w)) (g, I1, P1) ∧ Kp I I1 ∧ KpP P P1 ∧ Cl mX12_reading [.ref 95, .int x1, .int x2, .int x3, .int x4] (g, I1, P1) (some (.int w)) (g, J, P1) ∧ Km I1 J := by
  refine u_reading L (fun i j k hp hl hk => ?_)
  have L0 := L
  obtain ⟨S, Q0, TW0, -⟩ := L
  have n1 := TW0.2.1.1
  have n3 := TW0.2.2.2.1.1
  have hi := (pk_some (by omega) hp).1
  have hj := (pk_some (by omega) hl).1
  have WL := TW0.2.2.2.1.2 j hj
  have nl := WL.1
  have hk1 := (pk_some (by omega) hk).1
  have X := (TW0.2.1.2 i hi).2
  have hn1 := (WL.2 k hk1).1.1
  obtain ⟨I1, z, kI, kP, E, M1⟩ := hear L0 hp hl hk
  have E0 := E
  obtain ⟨-, Q, -, HW0, -, -, -, e12, -, ef⟩ := E
  obtain ⟨o1, o2⟩ := ix (x := 0) (k := 0) (N := 143) rfl (by decide) (by decide)
  by_cases h4 : x4 = -1
  · obtain ⟨I2, zm, km⟩ := c_readings E0 X hn1
    obtain ⟨J1, J2, z1, z2, D2, ⟨l0, E2⟩, f2⟩ := hearR S Q TW0 (M1.keep (km 96 (by decide))) hp hl hk
    obtain ⟨J3, z3, f3, h3⟩ := r_lays S Q HW0 D2 E2 e12 (fun q hq => (ef q hq).2)
    refine ⟨nI (rT (tH t i) ((tL t j).2.2 k) ((tL t j).2.1 k) 0 0), I2, _, J3, eX11_reading (wX11_reading_0 ⟨S.k 0 11 (by decide), 73, Q0.p 0 4 73 (by decide), S.k 0 11 (by decide), 1, Q0.p 0 0 1 (by decide), S.k 1 9 (by decide), _, c_hillY L0 hp, fun q => (nomatch q), fun b hb => ⟨S.k 0 11 (by decide), 1, Q0.p 0 0 1 (by decide), S.k 1 9 (by decide), _, c_linesY L0 hl, fun q => (nomatch q), fun b2 hb2 => ?_⟩⟩), kI.tr km.p, kP, eX12_reading (wX12_reading_0 ⟨S.k 95 12 (by decide), _, _, z1, fun q => absurd q (by decide), fun _ => ⟨S.k 95 12 (by decide), _, _, z2, fun q => absurd q (by decide), fun _ => ⟨fun _ => ⟨S.k 95 12 (by decide), _, z3, fun q => absurd h4 q, fun _ => ⟨S.k 95 12 (by decide), 107, Q.p 95 28 107 (by decide), S.k 107 13 (by decide), by rw [S.l 107 143 (by decide)]; exact o1, ?_, rfl⟩⟩, fun q => absurd (by rw [h4]; decide) q⟩⟩⟩), f2.m.tr f3.m⟩
    · cases hb
      cases hb2
      exact ⟨S.k 73 1 (by decide), _, _, _, z, fun _ => ⟨fun q => absurd h4 q, fun _ => ⟨S.k 0 11 (by decide), 73, Q.p 0 4 73 (by decide), S.k 73 1 (by decide), _, _, zm, rfl, rfl⟩⟩, fun q => absurd q (by decide)⟩
    · rw [o2, show J3 107 0 = _ from h3 0 0 (by omega) (by omega)]
  · obtain ⟨I2, zm, km⟩ := c_firstReading (x := x4) E0 X
    obtain ⟨J1, J2, z1, z2, D2, ⟨l0, E2⟩, f2⟩ := hearR S Q TW0 (M1.keep (km 96 (by decide))) hp hl hk
    have cc : ∀ w, w = (if x4 < 0 then -1 else rdw (tH t i) ((tL t j).2.2 k) ((tL t j).2.1 k) x4.toNatClampNeg 0 0) → Cl mX11_reading [.ref 0, .int x1, .int x2, .int x3, .int x4] (g, I, P) (some (.int w)) (g, I2, zU P 73 0 (some (8 + 16 * i))) := by
      rintro w rfl
      refine eX11_reading (wX11_reading_0 ⟨S.k 0 11 (by decide), 73, Q0.p 0 4 73 (by decide), S.k 0 11 (by decide), 1, Q0.p 0 0 1 (by decide), S.k 1 9 (by decide), _, c_hillY L0 hp, fun q => (nomatch q), fun b hb => ⟨S.k 0 11 (by decide), 1, Q0.p 0 0 1 (by decide), S.k 1 9 (by decide), _, c_linesY L0 hl, fun q => (nomatch q), fun b2 hb2 => ?_⟩⟩)
      cases hb
      cases hb2
      exact ⟨S.k 73 1 (by decide), _, _, _, z, fun _ => ⟨fun _ => ⟨S.k 0 11 (by decide), 73, Q.p 0 4 73 (by decide), S.k 73 1 (by decide), _, _, zm, rfl, rfl⟩, fun q => absurd q h4⟩, fun q => absurd q (by decide)⟩
    by_cases hx : x4 < 0
    · have hlt : ¬ (-1 : Int32) ≤ x4 := fun h => by
        rw [Int32.le_iff_toInt_le] at h
        rw [Int32.lt_iff_toInt_lt] at hx
        rw [show (-1 : Int32).toInt = -1 from rfl] at h
        rw [show (0 : Int32).toInt = 0 from rfl] at hx
        exact h4 (Int32.toInt_inj.mp (by rw [show (-1 : Int32).toInt = -1 from rfl]; omega))
      exact ⟨-1, I2, _, J2, cc _ (by rw [if_pos hx]), kI.tr km.p, kP, eX12_reading (wX12_reading_0 ⟨S.k 95 12 (by decide), _, _, z1, fun q => absurd q (by decide), fun _ => ⟨S.k 95 12 (by decide), _, _, z2, fun q => absurd q (by decide), fun _ => ⟨fun q => absurd q hlt, fun _ => ⟨rfl, rfl⟩⟩⟩⟩), f2.m⟩
    · obtain ⟨n, hn, rfl⟩ := nI_of hx
      obtain ⟨J3, z3, f3, h3⟩ := r_lays S Q HW0 D2 E2 e12 (fun q hq => (ef q hq).2)
      have rf := r_firstReading S Q HW0 X (f3.h D2) (f3.e E2) e12 hn1 (fun q hq => (ef q hq).2) hn h3
      have hle : (-1 : Int32) ≤ nI n := Int32.le_trans (by decide) (nI_pos' hn)
      exact ⟨_, I2, _, J3, cc _ (by rw [if_neg hx, nI_clamp hn]), kI.tr km.p, kP, eX12_reading (wX12_reading_0 ⟨S.k 95 12 (by decide), _, _, z1, fun q => absurd q (by decide), fun _ => ⟨S.k 95 12 (by decide), _, _, z2, fun q => absurd q (by decide), fun _ => ⟨fun _ => ⟨S.k 95 12 (by decide), _, z3, fun _ => rf, fun q => absurd q h4⟩, fun q => absurd hle q⟩⟩⟩), f2.m.tr f3.m⟩
end READ
