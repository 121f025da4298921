/-! ===== echo ===== -/
/-- letters alike of two lines from two places on -/
def lrun (l : LD) (a i b j : Nat) : Nat := lcp (fun x => l.2.2 a (i + x)) (fun x => l.2.2 b (j + x)) (min (l.2.1 a - i) (l.2.1 b - j)) 0
theorem lrun_le (l : LD) (a i b j : Nat) : lrun l a i b j ≤ l.2.1 a - i := by
  have := (lcp_le (fun x => l.2.2 a (i + x)) (fun x => l.2.2 b (j + x)) (min (l.2.1 a - i) (l.2.1 b - j)) 0).2
  unfold lrun
  omega
def ecS (l : LD) (a b i j : Nat) (s : Nat × Int32) : Nat × Int32 := if s.1 < lrun l a i b j then (lrun l a i b j, nI i) else s
def ecR (l : LD) (a b i : Nat) (s : Nat × Int32) : Nat → Nat × Int32
  | 0 => s
  | n + 1 => ecS l a b i n (ecR l a b i s n)
def ecA (l : LD) (a b : Nat) : Nat → Nat × Int32
  | 0 => (0, -1)
  | n + 1 => ecR l a b n (ecA l a b n) (l.2.1 b)
def ecF (l : LD) (a b : Nat) (y : Int32) : Int32 := if y = 0 then nI (ecA l a b (l.2.1 a)).1 else (ecA l a b (l.2.1 a)).2
theorem ecS_le {l : LD} {a b i j : Nat} {s : Nat × Int32} {m : Nat} (h : s.1 ≤ m) (hm : l.2.1 a ≤ m) : (ecS l a b i j s).1 ≤ m := by
  unfold ecS
  have := lrun_le l a i b j
  split
  · show lrun l a i b j ≤ m
    omega
  · exact h
theorem ecR_le {l : LD} {a b i : Nat} {s : Nat × Int32} {m : Nat} (h : s.1 ≤ m) (hm : l.2.1 a ≤ m) : ∀ n, (ecR l a b i s n).1 ≤ m := by
  intro n
  induction n with
  | zero => exact h
  | succ n ih => exact ecS_le ih hm
theorem ecA_le {l : LD} {a b : Nat} {m : Nat} (hm : l.2.1 a ≤ m) : ∀ n, (ecA l a b n).1 ≤ m := by
  intro n
  induction n with
  | zero => exact Nat.zero_le _
  | succ n ih => exact ecR_le ih hm _
section ECHO
variable {g : zG} {I : Nat → Nat → Int32} {P : Nat → Nat → Option Nat} {t : TD} {im : Nat → Option TD} {a : Nat} {l : LD}
theorem c_sameFrom {k i p q : Nat} (T : LnS g P a) (W : LW l) (D : LnD I a l) (hk : k < l.1) (hp : p < l.1) (hi : i < l.2.1 k) (hq : q < l.2.1 p) : Cl mX4_sameFrom [.ref a, .int (nI k), .int (nI i), .int (nI p), .int (nI q)] (g, I, P) (some (.int (nI (lrun l k i p q)))) (g, I, P) := by
  have w1 := (W.2 k hk).1.2
  have w2 := (W.2 p hp).1.2
  have key : ∀ m n, n + m = min (l.2.1 k - i) (l.2.1 p - q) → Zt none mX4_sameFrom 0 0 29 [(0, .ref a), (1, .int (nI k)), (2, .int (nI i)), (3, .int (nI p)), (4, .int (nI q)), (5, .int (nI (min (l.2.1 k - i) (l.2.1 p - q)))), (6, .int (nI n))] [] (g, I, P) (some (.int (nI (lcp (fun x => l.2.2 k (i + x)) (fun x => l.2.2 p (q + x)) m n)))) (g, I, P) := by
    intro m
    induction m with
    | zero =>
      intro n hn
      obtain rfl : n = min (l.2.1 k - i) (l.2.1 p - q) := hn
      exact wX4_sameFrom_29 ⟨fun _ => ⟨rfl, rfl⟩, fun q => absurd (Int32.le_refl _) q⟩
    | succ m ih =>
      intro n hn
      have ih := ih (n + 1) (by omega)
      have l1 := (W.2 k hk).2 (i + n) (by omega)
      have l2 := (W.2 p hp).2 (q + n) (by omega)
      refine wX4_sameFrom_29 ⟨fun q => absurd q (nI_ge (by omega) (by omega)), fun _ => ⟨T.1, _, by rw [nI_add]; exact c_lletter T W D hk (by omega), T.1, _, by rw [nI_add]; exact c_lletter T W D hp (by omega), pq_eq (l.2.2 k (i + n)) (l.2.2 p (q + n)) (fun h => ⟨?_, rfl⟩) (fun h => ?_)⟩⟩
      · have e : lcp (fun x => l.2.2 k (i + x)) (fun x => l.2.2 p (q + x)) (m + 1) n = n := by
          show (if l.2.2 k (i + n) = l.2.2 p (q + n) then _ else n) = _
          rw [if_neg h]
        rw [e]
      · have e : lcp (fun x => l.2.2 k (i + x)) (fun x => l.2.2 p (q + x)) (m + 1) n = lcp (fun x => l.2.2 k (i + x)) (fun x => l.2.2 p (q + x)) m (n + 1) := by
          show (if l.2.2 k (i + n) = l.2.2 p (q + n) then _ else n) = _
          rw [if_pos h]
        rw [nI_1, e]; exact ih
  refine eX4_sameFrom (wX4_sameFrom_0 ⟨T.1, _, T.2.2.2.1, _, c_lsize T W D hk, T.1, _, T.2.2.2.1, _, c_lsize T W D hp, fun y hy => ?_⟩)
  rw [hy, pk_sub (by omega), pk_sub (by omega), zmmin_n (by omega) (by omega)]
  exact key _ 0 (by omega)
theorem c_inBoth {k p : Nat} {y : Int32} (T : LnS g P a) (W : LW l) (D : LnD I a l) (hk : k < l.1) (hp : p < l.1) : Cl mX4_longestInBoth [.ref a, .int (nI k), .int (nI p), .int y] (g, I, P) (some (.int (ecF l k p y))) (g, I, P) := by
  have w1 := (W.2 k hk).1.2
  have w2 := (W.2 p hp).1.2
  have key : ∀ m i, i + m = l.2.1 k → Zt none mX4_longestInBoth 0 0 9 [(0, .ref a), (1, .int (nI k)), (2, .int (nI p)), (3, .int y), (4, .int (nI (ecA l k p i).1)), (5, .int (ecA l k p i).2), (6, .int (nI i))] [] (g, I, P) (some (.int (ecF l k p y))) (g, I, P) := by
    intro m
    induction m with
    | zero =>
      intro i hi
      obtain rfl : i = l.2.1 k := hi
      exact wX4_longestInBoth_9 ⟨T.1, _, T.2.2.2.1, _, c_lsize T W D hk, fun _ => ⟨fun h => ⟨by unfold ecF; rw [if_pos h], rfl⟩, fun h => ⟨by unfold ecF; rw [if_neg h], rfl⟩⟩, fun q => absurd (Int32.le_refl _) q⟩
    | succ m ih =>
      intro i hi
      have inner : ∀ m j, j + m = l.2.1 p → Zt none mX4_longestInBoth 0 0 25 [(0, .ref a), (1, .int (nI k)), (2, .int (nI p)), (3, .int y), (4, .int (nI (ecR l k p i (ecA l k p i) j).1)), (5, .int (ecR l k p i (ecA l k p i) j).2), (6, .int (nI i)), (7, .int (nI j))] [] (g, I, P) (some (.int (ecF l k p y))) (g, I, P) := by
        intro m
        induction m with
        | zero =>
          intro j hj
          obtain rfl : j = l.2.1 p := hj
          exact wX4_longestInBoth_25 ⟨T.1, _, T.2.2.2.1, _, c_lsize T W D hp, fun _ => by rw [nI_1]; exact ih (i + 1) (by omega), fun q => absurd (Int32.le_refl _) q⟩
        | succ m ihj =>
          intro j hj
          have ihj := ihj (j + 1) (by omega)
          have b1 := ecR_le (b := p) (i := i) (ecA_le (l := l) (a := k) (b := p) w1 i) w1 j
          have b2 := lrun_le l k i p j
          have e : ecR l k p i (ecA l k p i) (j + 1) = ecS l k p i j (ecR l k p i (ecA l k p i) j) := rfl
          rw [e] at ihj
          unfold ecS at ihj
          refine wX4_longestInBoth_25 ⟨T.1, _, T.2.2.2.1, _, c_lsize T W D hp, fun q => absurd q (nI_ge (by omega) (by omega)), fun _ => ⟨T.1, _, c_sameFrom T W D hk hp (by omega) (by omega), pk_le (lrun l k i p j) (ecR l k p i (ecA l k p i) j).1 (fun h => ?_) (fun h => ?_)⟩⟩
          · rw [if_neg (by omega)] at ihj
            rw [nI_1]; exact ihj
          · rw [if_pos h] at ihj
            rw [nI_1]; exact ihj
      exact wX4_longestInBoth_9 ⟨T.1, _, T.2.2.2.1, _, c_lsize T W D hk, fun q => absurd q (nI_ge (by omega) (by omega)), fun _ => inner (l.2.1 p) 0 (by omega)⟩
  exact eX4_longestInBoth (wX4_longestInBoth_0 (key (l.2.1 k) 0 (by omega)))
theorem r_inBoth {l0 k p : Nat} {y : Int32} (S : Sg g) (Q : Sp P) (W : LW l) (E : MeD I l0 (l.2.1 k) (l.2.2 k)) (R : Mp I (l.2.1 p) (l.2.2 p)) (hk : k < l.1) (hp : p < l.1) : Zt none mX12_echo 0 0 72 [(0, .ref 95), (4, .int y), (5, .int 0), (6, .int (-1)), (7, .int 0)] [] (g, I, P) (some (.int (ecF l k p y))) (g, I, P) := by
  have w1 := (W.2 k hk).1.2
  have w2 := (W.2 p hp).1.2
  have key : ∀ m i, i + m = l.2.1 k → Zt none mX12_echo 0 0 72 [(0, .ref 95), (4, .int y), (5, .int (nI (ecA l k p i).1)), (6, .int (ecA l k p i).2), (7, .int (nI i))] [] (g, I, P) (some (.int (ecF l k p y))) (g, I, P) := by
    intro m
    induction m with
    | zero =>
      intro i hi
      obtain rfl : i = l.2.1 k := hi
      exact wX12_echo_72 ⟨S.k 95 12 (by decide), fun _ => ⟨fun h => ⟨by unfold ecF; rw [if_pos h], rfl⟩, fun h => ⟨by unfold ecF; rw [if_neg h], rfl⟩⟩, fun q => absurd (by rw [E.2.2.1]; exact Int32.le_refl _) q⟩
    | succ m ih =>
      intro i hi
      have inner : ∀ m j, j + m = l.2.1 p → Zt none mX12_echo 0 0 84 [(0, .ref 95), (4, .int y), (5, .int (nI (ecR l k p i (ecA l k p i) j).1)), (6, .int (ecR l k p i (ecA l k p i) j).2), (7, .int (nI i)), (8, .int (nI j))] [] (g, I, P) (some (.int (ecF l k p y))) (g, I, P) := by
        intro m
        induction m with
        | zero =>
          intro j hj
          obtain rfl : j = l.2.1 p := hj
          exact wX12_echo_84 ⟨S.k 95 12 (by decide), fun _ => by rw [nI_1]; exact ih (i + 1) (by omega), fun q => absurd (by rw [R.2.1]; exact Int32.le_refl _) q⟩
        | succ m ihj =>
          intro j hj
          have ihj := ihj (j + 1) (by omega)
          have b1 := ecR_le (b := p) (i := i) (ecA_le (l := l) (a := k) (b := p) w1 i) w1 j
          have b2 := lrun_le l k i p j
          have e : ecR l k p i (ecA l k p i) (j + 1) = ecS l k p i j (ecR l k p i (ecA l k p i) j) := rfl
          rw [e] at ihj
          unfold ecS at ihj
          generalize ecR l k p i (ecA l k p i) j = s at ihj b1 ⊢
          have stop : ∀ n, n = lrun l k i p j → ((nI s.1 < nI n) → Zt none mX12_echo 0 0 84 [(0, .ref 95), (4, .int y), (5, .int (nI n)), (6, .int (nI i)), (7, .int (nI i)), (8, .int (nI j + 1))] [] (g, I, P) (some (.int (ecF l k p y))) (g, I, P)) ∧ ((¬ nI s.1 < nI n) → Zt none mX12_echo 0 0 84 [(0, .ref 95), (4, .int y), (5, .int (nI s.1)), (6, .int s.2), (7, .int (nI i)), (8, .int (nI j + 1))] [] (g, I, P) (some (.int (ecF l k p y))) (g, I, P)) := by
            rintro n rfl
            refine pk_lt s.1 (lrun l k i p j) (fun h => ?_) (fun h => ?_)
            · rw [if_pos h] at ihj
              rw [nI_1]; exact ihj
            · rw [if_neg (by omega)] at ihj
              rw [nI_1]; exact ihj
          have go : ∀ m n, n + m = min (l.2.1 k - i) (l.2.1 p - j) → lcp (fun x => l.2.2 k (i + x)) (fun x => l.2.2 p (j + x)) m n = lrun l k i p j → Zt none mX12_echo 0 0 96 [(0, .ref 95), (4, .int y), (5, .int (nI s.1)), (6, .int s.2), (7, .int (nI i)), (8, .int (nI j)), (9, .int (nI n))] [] (g, I, P) (some (.int (ecF l k p y))) (g, I, P) := by
            intro m
            induction m with
            | zero =>
              intro n hn hl
              have hl : n = lrun l k i p j := hl
              refine wX12_echo_96 ⟨S.k 95 12 (by decide), fun _ => stop n hl, fun q1 => ⟨S.k 95 12 (by decide), fun _ => stop n hl, fun q2 => ?_⟩⟩
              rw [E.2.2.1, nI_add] at q1
              rw [R.2.1, nI_add] at q2
              have := nI_nleD (by omega) (by omega) q1
              have := nI_nleD (by omega) (by omega) q2
              omega
            | succ m ihn =>
              intro n hn hl
              have l1 := (W.2 k hk).2 (i + n) (by omega)
              have l2 := (W.2 p hp).2 (j + n) (by omega)
              have hl : (if l.2.2 k (i + n) = l.2.2 p (j + n) then lcp (fun x => l.2.2 k (i + x)) (fun x => l.2.2 p (j + x)) m (n + 1) else n) = lrun l k i p j := hl
              obtain ⟨v1, v2⟩ := ix (x := nI j + nI n) (k := j + n) (N := 12) (by rw [nI_add]) (by omega) (by decide)
              refine wX12_echo_96 ⟨S.k 95 12 (by decide), fun q1 => ?_, fun _ => ⟨S.k 95 12 (by decide), fun q2 => ?_, fun _ => ⟨S.k 95 12 (by decide), _, by rw [nI_add]; exact r_inLine S Q E (by omega), S.k 95 12 (by decide), 109, Q.p 95 30 109 (by decide), S.k 109 13 (by decide), by rw [S.l 109 12 (by decide)]; exact v1, ?_⟩⟩⟩
              · rw [E.2.2.1, nI_add] at q1
                exact absurd q1 (nI_ge (by omega) (by omega))
              · rw [R.2.1, nI_add] at q2
                exact absurd q2 (nI_ge (by omega) (by omega))
              · rw [v2, (R.2.2 (j + n) (by omega)).1]
                refine pq_eq (l.2.2 k (i + n)) (l.2.2 p (j + n)) (fun h => ?_) (fun h => ?_)
                · rw [if_neg h] at hl
                  exact stop n hl
                · rw [if_pos h] at hl
                  rw [nI_1]; exact ihn (n + 1) (by omega) hl
          refine wX12_echo_84 ⟨S.k 95 12 (by decide), fun q => ?_, fun _ => go _ 0 (by omega) rfl⟩
          rw [R.2.1] at q
          exact absurd q (nI_ge (by omega) (by omega))
      refine wX12_echo_72 ⟨S.k 95 12 (by decide), fun q => ?_, fun _ => inner (l.2.1 p) 0 (by omega)⟩
      rw [E.2.2.1] at q
      exact absurd q (nI_ge (by omega) (by omega))
  exact key (l.2.1 k) 0 (by omega)
theorem b_echo (L : LI g I P t im) (x1 x2 x3 y : Int32) : ∃ (w : Int32) (J : Nat → Nat → Int32), Cl mX11_echo [.ref 0, .int x1, .int x2, .int x3, .int y] (g, I, P) (some (.int w)) (g, I, P) ∧ Cl mX12_echo [.ref 95, .int x1, .int x2, .int x3, .int y] (g, I, P) (some (.int w)) (g, J, P) ∧ Km I J := by
  have L0 := L
  obtain ⟨S, Q, W, D, M, -⟩ := L
  have hn := W.2.2.2.1.1
  cases hp : pk x1 (tNl t) with
  | none => exact ⟨-2, I, eX11_echo (wX11_echo_0 ⟨S.k 0 11 (by decide), 1, Q.p 0 0 1 (by decide), S.k 1 9 (by decide), _, c_linesN L0 hp, fun _ => ⟨rfl, rfl⟩, fun b hb => (nomatch hb)⟩), eX12_echo (wX12_echo_0 ⟨S.k 95 12 (by decide), _, _, r_isLine0 S Q W M hp, fun q => absurd rfl q, fun _ => ⟨rfl, rfl⟩⟩), Km.rf I⟩
  | some i =>
    have hi : i < tNl t := (pk_some (by omega) hp).1
    have hW := W.2.2.2.1.2 i hi
    have hw := hW.1
    have T := LnS_i S Q (i := i) (by omega)
    have D1 : LnD I (18 + 16 * i) (tL t i) := D.2.2.2.2.1 i hi
    cases h3 : pk x3 (tL t i).1 with
    | none =>
      refine ⟨-2, I, eX11_echo (wX11_echo_0 ⟨S.k 0 11 (by decide), 1, Q.p 0 0 1 (by decide), S.k 1 9 (by decide), _, c_linesY L0 hp, fun q => (nomatch q), fun b hb => ?_⟩), eX12_echo (wX12_echo_0 ⟨S.k 95 12 (by decide), _, _, r_isLine1 S Q W M hp h3, fun q => absurd rfl q, fun _ => ⟨rfl, rfl⟩⟩), Km.rf I⟩
      cases hb
      exact ⟨T.1, _, c_hasLine T D1, fun _ => ⟨rfl, rfl⟩, fun _ => ⟨T.1, _, c_hasLine T D1, fun q => by rw [h3] at q; exact absurd rfl q, fun _ => ⟨rfl, rfl⟩⟩⟩
    | some p =>
      obtain ⟨hp1, rfl⟩ := pk_some (by omega) h3
      have wp := (hW.2 p hp1).1.2
      obtain ⟨J1, z1, E1, f1, -⟩ := r_isLine S Q W M hp h3
      -- what comes of the second line
      have key : ∀ (w : Int32), (∀ (J : Nat → Nat → Int32), MtA J 0 t → Mp J ((tL t i).2.1 p) ((tL t i).2.2 p) → ∃ (w2 : Int32) (J3 J4 : Nat → Nat → Int32), Cl mX12_isLine [.ref 95, .int x1, .int x2] (g, J, P) (some (.int w2)) (g, J3, P) ∧ (((¬ w2 = 0) → Zt none mX12_echo 0 0 72 [(0, .ref 95), (4, .int y), (5, .int 0), (6, .int (-1)), (7, .int 0)] [] (g, J3, P) (some (.int w)) (g, J4, P)) ∧ ((w2 = 0) → some (Value.int w) = some (.int (-2)) ∧ ((g, J4, P) : zH) = (g, J3, P))) ∧ Km J J4) → ∃ J, Cl mX12_echo [.ref 95, .int x1, .int x2, .int (nI p), .int y] (g, I, P) (some (.int w)) (g, J, P) ∧ Km I J := by
        intro w hh
        have loop : ∀ m k (K : Nat → Nat → Int32), k + m = (tL t i).2.1 p → (∀ c, c ≠ 109 → K c = J1 c) → (∀ q, q < k → K 109 q = nI ((tL t i).2.2 p q)) → ∃ J, Zt none mX12_echo 0 0 15 [(0, .ref 95), (1, .int x1), (2, .int x2), (4, .int y), (5, .int (nI k))] [] (g, K, P) (some (.int w)) (g, J, P) ∧ Km J1 J := by
          intro m
          induction m with
          | zero =>
            intro k K hk hK h9
            obtain rfl : k = (tL t i).2.1 p := hk
            have e27 : K 95 27 = nI ((tL t i).2.1 p) := by rw [hK 95 (by decide)]; exact E1.2.2.1
            obtain ⟨w2, J3, J4, q1, q2, q3⟩ := hh (zU K 95 32 (K 95 27)) (M.keep (by funext j; rw [zU_a _ _ (by decide), hK 96 (by decide), f1 96 (by decide)])) ⟨wp, by rw [zU_s]; exact e27, fun q hq => ⟨by rw [zU_a _ _ (by decide)]; exact h9 q hq, (hW.2 p hp1).2 q hq⟩⟩
            refine ⟨J4, wX12_echo_15 ⟨S.k 95 12 (by decide), fun _ => ⟨S.k 95 12 (by decide), S.k 95 12 (by decide), S.k 95 12 (by decide), w2, J3, q1, q2⟩, fun q => absurd (by rw [e27]; exact Int32.le_refl _) q⟩, fun c hc => ?_⟩
            rw [q3 c hc]
            funext j
            rw [zU_a _ _ (by omega), hK c (by omega)]
          | succ m ih =>
            intro k K hk hK h9
            have e27 : K 95 27 = nI ((tL t i).2.1 p) := by rw [hK 95 (by decide)]; exact E1.2.2.1
            have E2 : MeD K (1050 + 79 * i + 1 + 13 * p) ((tL t i).2.1 p) ((tL t i).2.2 p) := ⟨E1.1, by rw [hK 95 (by decide)]; exact E1.2.1, e27, fun q hq => by rw [hK 96 (by decide)]; exact E1.2.2.2 q hq⟩
            obtain ⟨v1, v2⟩ := ix (x := nI k) (k := k) (N := 12) rfl (by omega) (by decide)
            obtain ⟨J, z, z2⟩ := ih (k + 1) (zU K 109 k (nI ((tL t i).2.2 p k))) (by omega) (fun c hc => by funext j; rw [zU_a _ _ hc, hK c hc]) (fun q hq => by
              by_cases hqk : q = k
              · subst hqk; rw [zU_s]
              · rw [zU_k _ _ hqk]; exact h9 q (by omega))
            refine ⟨J, wX12_echo_15 ⟨S.k 95 12 (by decide), fun q => ?_, fun _ => ⟨S.k 95 12 (by decide), 109, Q.p 95 30 109 (by decide), S.k 95 12 (by decide), _, r_inLine S Q E2 (by omega), S.k 109 13 (by decide), by rw [S.l 109 12 (by decide)]; exact v1, by rw [v2, nI_1]; exact z⟩⟩, z2⟩
            rw [e27] at q
            exact absurd q (nI_ge (by omega) (by omega))
        obtain ⟨J, z, z2⟩ := loop ((tL t i).2.1 p) 0 J1 (by omega) (fun _ _ => rfl) (fun q hq => by omega)
        exact ⟨J, eX12_echo (wX12_echo_0 ⟨S.k 95 12 (by decide), _, _, z1, fun _ => z, fun q => absurd q (by decide)⟩), f1.m.tr z2⟩
      cases h2 : pk x2 (tL t i).1 with
      | none =>
        obtain ⟨J, z, z2⟩ := key (-2) (fun J MJ _ => ⟨0, J, J, r_isLine1 S Q W MJ hp h2, ⟨fun q => absurd rfl q, fun _ => ⟨rfl, rfl⟩⟩, Km.rf J⟩)
        refine ⟨-2, J, eX11_echo (wX11_echo_0 ⟨S.k 0 11 (by decide), 1, Q.p 0 0 1 (by decide), S.k 1 9 (by decide), _, c_linesY L0 hp, fun q => (nomatch q), fun b hb => ?_⟩), z, z2⟩
        cases hb
        exact ⟨T.1, _, c_hasLine T D1, fun _ => ⟨rfl, rfl⟩, fun q => by rw [h2] at q; exact absurd rfl q⟩
      | some k =>
        obtain ⟨hk1, rfl⟩ := pk_some (by omega) h2
        obtain ⟨J, z, z2⟩ := key (ecF (tL t i) k p y) (fun J MJ R => by
          obtain ⟨J3, q1, E3, f3, s3⟩ := r_isLine S Q W MJ hp h2
          refine ⟨1, J3, J3, q1, ⟨fun _ => r_inBoth S Q hW E3 ⟨R.1, by rw [s3 32 (by decide) (by decide)]; exact R.2.1, fun q hq => ⟨by rw [f3 109 (by decide)]; exact (R.2.2 q hq).1, (R.2.2 q hq).2⟩⟩ hk1 hp1, fun q => absurd q (by decide)⟩, f3.m⟩)
        refine ⟨_, J, eX11_echo (wX11_echo_0 ⟨S.k 0 11 (by decide), 1, Q.p 0 0 1 (by decide), S.k 1 9 (by decide), _, c_linesY L0 hp, fun q => (nomatch q), fun b hb => ?_⟩), z, z2⟩
        cases hb
        refine ⟨T.1, _, c_hasLine T D1, fun q => ?_, fun _ => ⟨T.1, _, c_hasLine T D1, fun _ => ⟨T.1, _, c_inBoth T hW D1 hk1 hp1, rfl, rfl⟩, fun q => ?_⟩⟩
        · rw [h2] at q; exact absurd q zsI
        · rw [h3] at q; exact absurd q zsI
end ECHO
