/-! ===== words that begin with a row; what is heard; sums ===== -/
def eqN (u f : Nat → Nat) : Nat → Bool
  | 0 => true
  | n + 1 => eqN u f n && decide (u n = f n)
/-- word w begins with the n letters f -/
def beg (d : HD) (f : Nat → Nat) (n w : Nat) : Bool := decide (n ≤ hZ d w) && eqN (hL d w) f n
theorem eqN_f {u f : Nat → Nat} {k : Nat} (h : eqN u f k = false) : ∀ n, k ≤ n → eqN u f n = false := by
  intro n
  induction n with
  | zero => intro hk; obtain rfl : k = 0 := by omega
            exact h
  | succ n ih =>
    intro hk
    by_cases h1 : k = n + 1
    · rw [← h1]; exact h
    · show (eqN u f n && _) = false
      rw [ih (by omega)]; rfl
theorem bs_t {p : Nat → Bool} {n : Nat} (h : p n = true) : bs p (n + 1) = bs p n ||| (1 : Int32) <<< (nI n &&& 31) := by
  show bs p n ||| _ = _
  rw [if_pos h]
theorem bs_f {p : Nat → Bool} {n : Nat} (h : p n = false) : bs p (n + 1) = bs p n := by
  show bs p n ||| _ = _
  rw [if_neg (by rw [h]; decide), or_z]
def nsum (f : Nat → Nat) : Nat → Nat
  | 0 => 0
  | n + 1 => nsum f n + f n
theorem zsum_n (f : Nat → Nat) (n : Nat) : zsum (fun w => nI (f w)) n = nI (nsum f n) := by
  induction n with
  | zero => rfl
  | succ n ih => show zsum _ n + nI (f n) = nI (nsum f n + f n); rw [ih, nI_add]
theorem nsum_le {f : Nat → Nat} {b : Nat} : ∀ n, (∀ k, k < n → f k ≤ b) → nsum f n ≤ n * b := by
  intro n
  induction n with
  | zero => intro _; simp [nsum]
  | succ n ih =>
    intro h
    have h1 := ih (fun k hk => h k (by omega))
    have h2 := h n (by omega)
    show nsum f n + f n ≤ (n + 1) * b
    rw [Nat.succ_mul]; omega
/-- how often those of a set are said -/
def oft (d : HD) (s : Int32) : Nat := nsum (fun w => if tb s w = true then hO d w else 0) (hN d)
theorem oft_z {d : HD} {s : Int32} : zsum (fun w => if tb s w = true then nI (hO d w) else 0) (hN d) = nI (oft d s) := by
  unfold oft
  rw [← zsum_n]
  congr 1
  funext w
  by_cases h : tb s w = true
  · rw [if_pos h, if_pos h]
  · rw [if_neg h, if_neg h]; rfl
theorem oft_le {d : HD} {s : Int32} (W : HW d) : oft d s ≤ 990 := by
  have h1 := W.2.1
  have h2 : oft d s ≤ hN d * 99 := by
    apply nsum_le
    intro k hk
    have := W.2.2.2.1 k hk
    by_cases h : tb s k = true
    · rw [if_pos h]; exact this
    · rw [if_neg h]; omega
  omega
theorem lcp_comm (f h : Nat → Nat) : ∀ m i, lcp f h m i = lcp h f m i := by
  intro m
  induction m with
  | zero => intro i; rfl
  | succ m ih =>
    intro i
    show (if f i = h i then _ else _) = (if h i = f i then _ else _)
    by_cases e : f i = h i
    · rw [if_pos e, if_pos e.symm]; exact ih _
    · rw [if_neg e, if_neg (fun q => e q.symm)]
theorem hLcp_comm (d : HD) (a b : Nat) : hLcp d a b = hLcp d b a := by
  unfold hLcp
  rw [lcp_comm, Nat.min_comm]
theorem hLcp_le (d : HD) (a b : Nat) : hLcp d a b ≤ hZ d a ∧ hLcp d a b ≤ hZ d b := by
  have := (lcp_le (hL d a) (hL d b) (min (hZ d a) (hZ d b)) 0).2
  unfold hLcp
  omega
/-- letters that word w needs, looking at the words below v -/
def hNd (d : HD) (s : Int32) (w n : Nat) : Nat → Nat
  | 0 => n
  | v + 1 => if v ≠ w ∧ tb s v = true then max (hNd d s w n v) (hLcp d v w + 1) else hNd d s w n v
def hTell (d : HD) (s : Int32) (w n : Nat) : Nat := min (hNd d s w n (hN d)) (hZ d w)
theorem hNd_ge (d : HD) (s : Int32) (w n : Nat) : ∀ v, n ≤ hNd d s w n v := by
  intro v
  induction v with
  | zero => exact Nat.le_refl _
  | succ v ih =>
    simp only [hNd]
    split
    · exact Nat.le_trans ih (Nat.le_max_left _ _)
    · exact ih
theorem hNd_le {d : HD} {s : Int32} {w n : Nat} (W : HW d) (hw : w < hN d) (hn : n ≤ 12) : ∀ v, v ≤ hN d → hNd d s w n v ≤ 12 := by
  intro v
  induction v with
  | zero => intro _; exact hn
  | succ v ih =>
    intro hv
    have h1 := ih (by omega)
    have h2 := (hLcp_le d v w).2
    have h3 := (W.2.2.1 w hw).2
    simp only [hNd]
    split
    · exact Nat.max_le.mpr ⟨h1, by omega⟩
    · exact h1
/-- letters still needed, times how often, in all -/
def hSure (d : HD) (s : Int32) (n : Nat) : Nat := nsum (fun w => if tb s w = true then (hTell d s w n - n) * hO d w else 0) (hN d)
theorem hSure_le {d : HD} {s : Int32} {n : Nat} (W : HW d) : hSure d s n ≤ 5940 := by
  have h1 := W.2.1
  have h2 : hSure d s n ≤ hN d * 594 := by
    apply nsum_le
    intro k hk
    have a1 := W.2.2.2.1 k hk
    have a2 := (W.2.2.1 k hk).2
    have a3 : hTell d s k n - n ≤ 6 := by
      have : hTell d s k n ≤ hZ d k := Nat.min_le_right _ _
      omega
    by_cases h : tb s k = true
    · rw [if_pos h]; exact Nat.mul_le_mul a3 a1
    · rw [if_neg h]; omega
  omega
section EAR
variable {g : zG} {I : Nat → Nat → Int32} {P : Nat → Nat → Option Nat} {t : TD} {im : Nat → Option TD} {a : Nat} {d : HD}
theorem c_gsize {w : Nat} (S : HlS g P a) (W : HW d) (D : HlD I a d) (hw : w < hN d) : Cl mX11_got [.ref (a + 1), .int (nI w)] (g, I, P) (some (.int (nI (hZ d w)))) (g, I, P) := by
  rw [← D.2.2.2.1 w hw]
  exact c_got S.2.1.1 S.2.2.1.1 (by decide) (Nat.lt_of_lt_of_le hw W.2.1)
theorem c_gletter {w k : Nat} (S : HlS g P a) (W : HW d) (D : HlD I a d) (hw : w < hN d) (hk : k < hZ d w) : Cl mX11_got [.ref (a + 4), .int (nI w * 6 + nI k)] (g, I, P) (some (.int (nI (hL d w k)))) (g, I, P) := by
  have h1 := W.2.1
  have h2 := (W.2.2.1 w hw).2
  have e : nI w * 6 + nI k = nI (6 * w + k) := by
    rw [show (6 : Int32) = nI 6 from rfl, pk_mul, nI_add, Nat.mul_comm]
  rw [← D.2.2.2.2.2.2.1 w k hw hk, e]
  exact c_got S.2.1.2.2.2.1 S.2.2.1.2.2.2.1 (by decide) (by omega)
theorem c_begins {b o n N : Nat} {f : Nat → Nat} (S : HlS g P a) (W : HW d) (D : HlD I a d) (kb : zk g b 13) (lb : g.2.2 b = N) (hNN : N < 2 ^ 31) (ho : o + n ≤ N) (hf : ∀ k, k < n → f k < 2 ^ 31 ∧ I b (o + k) = nI (f k)) : Cl mX3_beginningWith [.ref a, .ref b, .int (nI o), .int (nI n)] (g, I, P) (some (.int (bs (beg d f n) (hN d)))) (g, I, P) := by
  have h10 := W.2.1
  refine eX3_beginningWith (wX3_beginningWith_0 ?_)
  have inner : ∀ w, w < hN d → Zt none mX3_beginningWith 0 0 6 [(0, .ref a), (1, .ref b), (2, .int (nI o)), (3, .int (nI n)), (4, .int (bs (beg d f n) (w + 1))), (5, .int (nI (w + 1)))] [] (g, I, P) (some (.int (bs (beg d f n) (hN d)))) (g, I, P) → ∀ m k c, k + m = n → (c = true → n ≤ hZ d w ∧ eqN (hL d w) f k = true) → (c = false → beg d f n w = false) → Zt none mX3_beginningWith 0 0 38 [(0, .ref a), (1, .ref b), (2, .int (nI o)), (3, .int (nI n)), (4, .int (bs (beg d f n) w)), (5, .int (nI w)), (6, .int (zb c)), (7, .int (nI k))] [] (g, I, P) (some (.int (bs (beg d f n) (hN d)))) (g, I, P) := by
    intro w hw nxt m
    induction m with
    | zero =>
      intro k c hk h1 h2
      obtain rfl : k = n := hk
      refine wX3_beginningWith_38 ⟨fun _ => zp (fun hc => ?_) (fun hc => ⟨_, c_bit (by omega), ?_⟩), fun q => absurd (Int32.le_refl _) q⟩
      · rw [bs_f (h2 hc)] at nxt
        rw [nI_1]; exact nxt
      · have hb : beg d f k w = true := by unfold beg; rw [(h1 hc).2]; simp [(h1 hc).1]
        rw [bs_t hb] at nxt
        rw [nI_1]; exact nxt
    | succ m ih =>
      intro k c hk h1 h2
      refine wX3_beginningWith_38 ⟨fun q => absurd q (nI_ge (by omega) (by omega)), fun _ => ⟨fun q => ⟨fun _ => ?_, fun q2 => absurd q q2⟩, fun q => ?_⟩⟩
      · rw [bs_f (h2 (zb_eq.mp q))] at nxt
        rw [nI_1]; exact nxt
      · obtain ⟨hz, he⟩ := h1 (zb_ne.mp q)
        obtain ⟨f1, f2⟩ := hf k (by omega)
        have hl := W.2.2.2.2 w k hw (by omega)
        refine ⟨S.1, _, S.2.2.2.2.2.2.1, _, c_gletter S W D hw (by omega), _, by rw [nI_add]; exact c_got kb lb hNN (by omega), fun ne => ?_, fun eq => ?_⟩
        · rw [f2, nI_eq (by omega) (by omega)] at ne
          rw [nI_1]
          refine ih (k + 1) false (by omega) (fun h => by cases h) (fun _ => ?_)
          have : eqN (hL d w) f (k + 1) = false := by show (eqN _ _ k && _) = false; simp [ne]
          unfold beg
          rw [eqN_f this n (by omega), Bool.and_false]
        · rw [f2, nI_eq (by omega) (by omega)] at eq
          rw [nI_1]
          refine ih (k + 1) true (by omega) (fun _ => ⟨hz, ?_⟩) (fun h => by cases h)
          show (eqN _ _ k && _) = true
          simp [eq, he]
  have key : ∀ m w, w + m = hN d → Zt none mX3_beginningWith 0 0 6 [(0, .ref a), (1, .ref b), (2, .int (nI o)), (3, .int (nI n)), (4, .int (bs (beg d f n) w)), (5, .int (nI w))] [] (g, I, P) (some (.int (bs (beg d f n) (hN d)))) (g, I, P) := by
    intro m
    induction m with
    | zero =>
      intro w hw
      obtain rfl : w = hN d := hw
      exact wX3_beginningWith_6 ⟨S.1, fun _ => ⟨rfl, rfl⟩, fun q => absurd (by rw [D.2.1]; exact Int32.le_refl _) q⟩
    | succ m ih =>
      intro w hw
      have hz := (W.2.2.1 w (by omega)).2
      refine wX3_beginningWith_6 ⟨S.1, fun q => ?_, fun _ => ⟨S.1, _, S.2.2.2.1, _, c_gsize S W D (by omega), pk_lt _ n (fun h => ?_) (fun h => ?_)⟩⟩
      · rw [D.2.1] at q
        exact absurd q (nI_ge (by omega) (by omega))
      · refine inner w (by omega) (ih (w + 1) (by omega)) n 0 false (by omega) (fun h => by cases h) (fun _ => ?_)
        unfold beg
        rw [decide_eq_false (by omega), Bool.false_and]
      · exact inner w (by omega) (ih (w + 1) (by omega)) n 0 true (by omega) (fun _ => ⟨h, rfl⟩) (fun h => by cases h)
  exact key (hN d) 0 (by omega)
theorem r_saidOf {h0 l0 n : Nat} {f : Nat → Nat} (S : Sg g) (Q : Sp P) (W : HW d) (D : MhD I h0 d) (E : MeD I l0 n f) (hf : ∀ k, k < n → f k < 2 ^ 31) : Cl mX12_saidOf [.ref 95] (g, I, P) (some (.int (bs (beg d f n) (hN d)))) (g, I, P) := by
  have h10 := W.2.1
  have k95 := S.k 95 12 (by decide)
  have hn : n < 2 ^ 31 := by have := E.1; omega
  refine eX12_saidOf (wX12_saidOf_0 ?_)
  have inner : ∀ w, w < hN d → Zt none mX12_saidOf 0 0 4 [(0, .ref 95), (1, .int (bs (beg d f n) (w + 1))), (2, .int (nI (w + 1)))] [] (g, I, P) (some (.int (bs (beg d f n) (hN d)))) (g, I, P) → ∀ m k c, k + m = n → (c = true → n ≤ hZ d w ∧ eqN (hL d w) f k = true) → (c = false → beg d f n w = false) → Zt none mX12_saidOf 0 0 33 [(0, .ref 95), (1, .int (bs (beg d f n) w)), (2, .int (nI w)), (3, .int (zb c)), (4, .int (nI k))] [] (g, I, P) (some (.int (bs (beg d f n) (hN d)))) (g, I, P) := by
    intro w hw nxt
    have e74 : ∀ c, c = beg d f n w → Zt none mX12_saidOf 0 0 74 [(0, .ref 95), (1, .int (bs (beg d f n) w)), (2, .int (nI w)), (3, .int (zb c))] [] (g, I, P) (some (.int (bs (beg d f n) (hN d)))) (g, I, P) := by
      intro c hc
      refine wX12_saidOf_74 (zp (fun h => ?_) (fun h y hy => ?_))
      · rw [bs_f (hc.symm.trans h)] at nxt
        rw [or_z, nI_1]; exact nxt
      · rw [bs_t (hc.symm.trans h)] at nxt
        rw [hy, nI_1]; exact nxt
    intro m
    induction m with
    | zero =>
      intro k c hk h1 h2
      obtain rfl : k = n := hk
      refine wX12_saidOf_33 ⟨k95, fun _ => e74 c ?_, fun q => absurd (by rw [E.2.2.1]; exact Int32.le_refl _) q⟩
      cases c with
      | false => exact (h2 rfl).symm
      | true => unfold beg; rw [(h1 rfl).2]; simp [(h1 rfl).1]
    | succ m ih =>
      intro k c hk h1 h2
      refine wX12_saidOf_33 ⟨k95, fun q => ?_, fun _ => zp (fun h => e74 c (h.trans (h2 h).symm)) (fun h => ?_)⟩
      · rw [E.2.2.1] at q
        exact absurd q (nI_ge (by omega) (by omega))
      · obtain ⟨hz, he⟩ := h1 h
        have hz6 := (W.2.2.1 w hw).2
        have f1 := hf k (by omega)
        have hl := W.2.2.2.2 w k hw (by omega)
        refine ⟨k95, _, r_letterOf S Q W D hw (by omega), k95, _, r_inLine S Q E (by omega), pq_eq _ _ (fun ne => ?_) (fun eq => ?_)⟩
        · rw [nI_1]
          refine ih (k + 1) false (by omega) (fun h => by cases h) (fun _ => ?_)
          have : eqN (hL d w) f (k + 1) = false := by show (eqN _ _ k && _) = false; simp [ne]
          unfold beg
          rw [eqN_f this n (by omega), Bool.and_false]
        · rw [nI_1]
          refine ih (k + 1) true (by omega) (fun _ => ⟨hz, ?_⟩) (fun h => by cases h)
          show (eqN _ _ k && _) = true
          simp [eq, he]
  have key : ∀ m w, w + m = hN d → Zt none mX12_saidOf 0 0 4 [(0, .ref 95), (1, .int (bs (beg d f n) w)), (2, .int (nI w))] [] (g, I, P) (some (.int (bs (beg d f n) (hN d)))) (g, I, P) := by
    intro m
    induction m with
    | zero =>
      intro w hw
      obtain rfl : w = hN d := hw
      exact wX12_saidOf_4 ⟨k95, fun _ => ⟨rfl, rfl⟩, fun q => absurd (by rw [D.2.2.2.1]; exact Int32.le_refl _) q⟩
    | succ m ih =>
      intro w hw
      have hz := (W.2.2.1 w (by omega)).2
      refine wX12_saidOf_4 ⟨k95, fun q => ?_, fun _ => ⟨k95, _, r_longOf S Q W D (by omega), k95, pk_lt _ n (fun h => ?_) (fun h => ?_) rfl E.2.2.1⟩⟩
      · rw [D.2.2.2.1] at q
        exact absurd q (nI_ge (by omega) (by omega))
      · refine inner w (by omega) (ih (w + 1) (by omega)) n 0 false (by omega) (fun h => by cases h) (fun _ => ?_)
        unfold beg
        rw [decide_eq_false (by omega), Bool.false_and]
      · exact inner w (by omega) (ih (w + 1) (by omega)) n 0 true (by omega) (fun _ => ⟨h, rfl⟩) (fun h => by cases h)
  exact key (hN d) 0 (by omega)
/-- a reference of the ear, of the ground or of the rules set anew -/
theorem Sp_73 (Q : Sp P) (x : Option Nat) : Sp (zU P 73 0 x) := by
  intro q hq
  have : ∀ q ∈ pT, q.1 ≠ 73 ∨ q.2.1 ≠ 0 := by decide
  rcases this q hq with h | h
  · rw [zU_a _ _ h]; exact Q q hq
  · rw [zU_k _ _ h]; exact Q q hq
theorem KpP_73 (Q : Sp P) (x : Option Nat) : KpP P (zU P 73 0 x) := ⟨fun a ha => by funext j; rw [zU_a _ _ (by omega)], Sp_73 Q x⟩
theorem c_hears {a1 a2 k : Nat} {l : LD} (S : Sg g) (Q : Sp P) (T : LnS g P a2) (ha : a2 + 2 < 41) (W : LW l) (D : LnD I a2 l) (hk : k < l.1) : ∃ J, Cl mX1_hears [.ref 73, .ref a1, .ref a2, .int (nI k)] (g, I, P) (some (.int 1)) (g, J, zU P 73 0 (some a1)) ∧ Kp I J ∧ J 73 1 = nI (l.2.1 k) ∧ ∀ i, i < l.2.1 k → J 80 i = nI (l.2.2 k i) := by
  have hz := (W.2 k hk).1.2
  have Q0 := Q
  have hw := W.1
  replace Q := Sp_73 Q0 (some a1)
  have T2 : LnS g (zU P 73 0 (some a1)) a2 := T.keep (by funext j; rw [zU_a _ _ (by omega)])
  have key : ∀ m i (K : Nat → Nat → Int32), i + m = l.2.1 k → Kp I K → K 73 1 = nI (l.2.1 k) → (∀ j, j < i → K 80 j = nI (l.2.2 k j)) → ∃ J, Zt none mX1_hears 0 0 38 [(0, .ref 73), (2, .ref a2), (3, .int (nI k)), (4, .int (nI i))] [] (g, K, zU P 73 0 (some a1)) (some (.int 1)) (g, J, zU P 73 0 (some a1)) ∧ Kp I J ∧ J 73 1 = nI (l.2.1 k) ∧ ∀ i, i < l.2.1 k → J 80 i = nI (l.2.2 k i) := by
    intro m
    induction m with
    | zero =>
      intro i K hi hK e1 e2
      obtain rfl : i = l.2.1 k := hi
      exact ⟨K, wX1_hears_38 ⟨S.k 73 1 (by decide), fun _ => ⟨rfl, rfl⟩, fun q => absurd (by rw [e1]; exact Int32.le_refl _) q⟩, hK, e1, e2⟩
    | succ m ih =>
      intro i K hi hK e1 e2
      have D2 : LnD K a2 l := D.keep (fun j hj => hK _ (by omega))
      obtain ⟨J, z, z2⟩ := ih (i + 1) (zU K 80 i (nI (l.2.2 k i))) (by omega) (hK.tr (fun a ha => by funext j; rw [zU_a _ _ (by omega)])) (by rw [zU_a _ _ (by decide)]; exact e1) (fun j hj => by
        by_cases hji : j = i
        · subst hji; rw [zU_s]
        · rw [zU_k _ _ hji]; exact e2 j (by omega))
      refine ⟨J, wX1_hears_38 ⟨S.k 73 1 (by decide), fun q => ?_, fun _ => ⟨S.k 73 1 (by decide), 80, Q.p 73 2 80 (by decide), T.1, _, c_lletter T2 W D2 hk (by omega), _, c_put (S.k 80 13 (by decide)) (S.l 80 12 (by decide)) (by decide) (by omega), by rw [nI_1]; exact z⟩⟩, z2⟩
      rw [e1] at q
      exact absurd q (nI_ge (by omega) (by omega))
  obtain ⟨J, z, z1, z2⟩ := key (l.2.1 k) 0 (zU I 73 1 (nI (l.2.1 k))) (by omega) (fun a ha => by funext j; rw [zU_a _ _ (by omega)]) (zU_s _ _ _ _) (fun j hj => by omega)
  refine ⟨J, eX1_hears (wX1_hears_0 ⟨T.1, _, c_hasLine T D, fun _ => ⟨S.k 73 1 (by decide), T.1, _, T2.2.2.2.1, _, c_lsize T2 W D hk, S.k 73 1 (by decide), z⟩, fun q => ?_⟩), z1, z2⟩
  rw [pk_nI (by omega) hk] at q
  exact absurd q zsI
theorem c_hears0 {a1 a2 : Nat} {x : Int32} {l : LD} (T : LnS g P a2) (D : LnD I a2 l) (h : pk x l.1 = none) : Cl mX1_hears [.ref 73, .ref a1, .ref a2, .int x] (g, I, P) (some (.int 0)) (g, I, P) :=
  eX1_hears (wX1_hears_0 ⟨T.1, _, c_hasLine T D, fun q => by rw [h] at q; exact absurd rfl q, fun _ => ⟨rfl, rfl⟩⟩)
/-- the ear hears n letters f on the hill at a -/
def Er (g : zG) (I : Nat → Nat → Int32) (P : Nat → Nat → Option Nat) (a : Nat) (d : HD) (n : Nat) (f : Nat → Nat) : Prop := Sg g ∧ Sp P ∧ HlS g P a ∧ HW d ∧ HlD I a d ∧ P 73 0 = some a ∧ I 73 1 = nI n ∧ n ≤ 12 ∧ a + 5 < 41 ∧ ∀ i, i < n → I 80 i = nI (f i) ∧ f i < 6
theorem c_heard {n : Nat} {f : Nat → Nat} (E : Er g I P a d n f) : Cl mX1_heard [.ref 73] (g, I, P) (some (.int (bs (beg d f n) (hN d)))) (g, I, P) := by
  obtain ⟨S, Q, T, W, D, e1, e2, e3, -, e4⟩ := E
  refine eX1_heard (wX1_heard_0 ⟨S.k 73 1 (by decide), _, e1, S.k 73 1 (by decide), 80, Q.p 73 2 80 (by decide), S.k 73 1 (by decide), T.1, _, ?_, rfl, rfl⟩)
  rw [e2]
  exact c_begins T W D (o := 0) (S.k 80 13 (by decide)) (S.l 80 12 (by decide)) (by decide) (by omega) (fun k hk => ⟨by have := (e4 k hk).2; omega, by rw [Nat.zero_add]; exact (e4 k hk).1⟩)
/-- all there is to a line heard on a hill, on both sides -/
theorem hear (L : LI g I P t im) {x1 x2 x3 : Int32} {i j k : Nat} (hp : pk x1 (tNh t) = some i) (hl : pk x2 (tNl t) = some j) (hk : pk x3 (tL t j).1 = some k) : ∃ I1, Cl mX1_hears [.ref 73, .ref (8 + 16 * i), .ref (18 + 16 * j), .int x3] (g, I, P) (some (.int 1)) (g, I1, zU P 73 0 (some (8 + 16 * i))) ∧ Kp I I1 ∧ KpP P (zU P 73 0 (some (8 + 16 * i))) ∧ Er g I1 (zU P 73 0 (some (8 + 16 * i))) (8 + 16 * i) (tH t i) ((tL t j).2.1 k) ((tL t j).2.2 k) ∧ MtA I1 0 t := by
  obtain ⟨S, Q, W, D, M, -⟩ := L
  have n1 := W.2.1.1
  have n2 := W.2.2.2.1.1
  obtain ⟨hi, -⟩ := pk_some (by omega) hp
  obtain ⟨hj, -⟩ := pk_some (by omega) hl
  have WL := W.2.2.2.1.2 j hj
  have nl := WL.1
  obtain ⟨hk1, rfl⟩ := pk_some (by omega) hk
  obtain ⟨I1, z, z1, z2, z3⟩ := c_hears (a1 := 8 + 16 * i) S Q (LnS_i S Q (i := j) (by omega)) (by omega) WL (D.2.2.2.2.1 j hj) hk1
  have D1 : HlD I (8 + 16 * i) (tH t i) := D.2.2.1 i hi
  refine ⟨I1, z, z1, KpP_73 Q _, ⟨S, Sp_73 Q _, HlS.keep (HlS_i S Q (i := i) (by omega)) (by funext q; rw [zU_a _ _ (by omega)]), (W.2.1.2 i hi).1, D1.keep (fun q hq => z1 _ (by omega)), zU_s _ _ _ _, z2, (WL.2 k hk1).1.2, by omega, fun q hq => ⟨z3 q hq, (WL.2 k hk1).2 q hq⟩⟩, M.keep (z1 96 (by omega))⟩
end EAR
