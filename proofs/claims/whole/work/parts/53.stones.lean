/-! ===== stones: one state ===== -/
abbrev QD : Type := (Int32 × Nat) × (Nat → Nat) × (Nat → Nat) × (Nat → Nat) × (Nat → Nat) × (Nat → Nat → Nat) × (Nat → Nat → Nat) × (Nat → Nat → Nat)
abbrev qS (q : QD) : Int32 := q.1.1
abbrev qF (q : QD) : Nat := q.1.2
abbrev qZ (q : QD) : Nat → Nat := q.2.1
abbrev qP (q : QD) : Nat → Nat := q.2.2.1
abbrev qT (q : QD) : Nat → Nat := q.2.2.2.1
abbrev qB (q : QD) : Nat → Nat := q.2.2.2.2.1
abbrev qL (q : QD) : Nat → Nat → Nat := q.2.2.2.2.2.1
abbrev qD (q : QD) : Nat → Nat → Nat := q.2.2.2.2.2.2.1
abbrev qG (q : QD) : Nat → Nat → Nat := q.2.2.2.2.2.2.2
def QW (d : HD) (n : Nat) (q : QD) : Prop := qF q ≤ 12 ∧ ∀ s, s < 4 → qP q s ≤ qZ q s ∧ qZ q s ≤ 12 ∧ qZ q s ≤ qF q ∧ qT q s ≤ n ∧ qB q s ≤ hN d ∧ ∀ k, k < qZ q s → qL q s k < 6 ∧ qD q s k ≤ 9 ∧ qG q s k ≤ 1
def up1 (f : Nat → Nat) (s x : Nat) : Nat → Nat := fun j => if j = s then x else f j
def up2 (f : Nat → Nat → Nat) (s k x : Nat) : Nat → Nat → Nat := fun j i => if j = s ∧ i = k then x else f j i
theorem up1_s (f : Nat → Nat) (s x : Nat) : up1 f s x s = x := by unfold up1; rw [if_pos rfl]
theorem up1_n {f : Nat → Nat} {s x j : Nat} (h : j ≠ s) : up1 f s x j = f j := by unfold up1; rw [if_neg h]
theorem up2_s (f : Nat → Nat → Nat) (s k x : Nat) : up2 f s k x s k = x := by unfold up2; rw [if_pos ⟨rfl, rfl⟩]
theorem up2_n {f : Nat → Nat → Nat} {s k x j i : Nat} (h : ¬ (j = s ∧ i = k)) : up2 f s k x j i = f j i := by unfold up2; rw [if_neg h]
def q0 : QD := ((0, 0), fun _ => 0, fun _ => 0, fun _ => 0, fun _ => 0, fun _ _ => 0, fun _ _ => 0, fun _ _ => 0)
def qAdd (q : QD) (s l p f : Nat) : QD := ((qS q, max (qF q) (qZ q s + 1)), up1 (qZ q) s (qZ q s + 1), qP q, qT q, qB q, up2 (qL q) s (qZ q s) l, up2 (qD q) s (qZ q s) p, up2 (qG q) s (qZ q s) f)
def qDec (q : QD) (s n : Nat) : QD := (q.1, qZ q, qP q, qT q, qB q, qL q, (fun j i => if j = s ∧ i < n then qD q j i - 1 else qD q j i), qG q)
def qTell (q : QD) (s w : Nat) : QD := (q.1, qZ q, up1 (qP q) s (qZ q s), up1 (qT q) s (qT q s + 1), up1 (qB q) s (w + 1), qL q, qD q, qG q)
def qChip (q : QD) (s : Nat) : QD := (q.1, up1 (qZ q) s (qZ q s - 1), qP q, qT q, qB q, qL q, qD q, qG q)
def qSpl (q : QD) (s : Nat) : QD := ((qS q ||| (1 : Int32) <<< (nI s &&& 31), qF q), q.2)
theorem qDec_add (q : QD) (s l : Nat) : qDec (qAdd q s l 9 0) s (qZ q s) = qAdd (qDec q s (qZ q s)) s l 9 0 := by
  unfold qDec qAdd
  have e : (fun j i => if j = s ∧ i < qZ q s then up2 (qD q) s (qZ q s) 9 j i - 1 else up2 (qD q) s (qZ q s) 9 j i) = up2 (fun j i => if j = s ∧ i < qZ q s then qD q j i - 1 else qD q j i) s (qZ q s) 9 := by
    funext j i
    by_cases h1 : j = s ∧ i = qZ q s
    · obtain ⟨rfl, rfl⟩ := h1
      rw [if_neg (fun h => Nat.lt_irrefl _ h.2), up2_s, up2_s]
    · rw [up2_n h1, up2_n h1]
  show ((_, _), _, _, _, _, _, (fun j i => if j = s ∧ i < qZ q s then up2 (qD q) s (qZ q s) 9 j i - 1 else up2 (qD q) s (qZ q s) 9 j i), _) = _
  rw [e]
/-- words that fit behind b, when n letters f are open -/
def fit (d : HD) (b n : Nat) (f : Nat → Nat) : Int32 := bs (fun w => tb (hBw d b) w && beg d f n w) (hN d)
def fitQ (d : HD) (q : QD) (s : Nat) : Int32 := fit d (qB q s) (qZ q s - qP q s) (fun k => qL q s (qP q s + k))
theorem fit_c {d : HD} {b n : Nat} {f : Nat → Nat} (W : HW d) : bs (beg d f n) (hN d) &&& hBw d b = fit d b n f := by
  have h10 := W.2.1
  unfold fit
  apply tb_ext
  intro k hk
  rw [tb_and hk, tb_bs (by omega) hk, tb_bs (by omega) hk]
  cases decide (k < hN d) <;> cases tb (hBw d b) k <;> cases beg d f n k <;> rfl
theorem beg_congr {d : HD} {f h : Nat → Nat} {n w : Nat} (e : ∀ k, k < n → f k = h k) : beg d f n w = beg d h n w := by
  unfold beg
  congr 1
  induction n with
  | zero => rfl
  | succ n ih =>
    show (eqN (hL d w) f n && decide (hL d w n = f n)) = (eqN (hL d w) h n && decide (hL d w n = h n))
    rw [ih (fun k hk => e k (by omega)), e n (by omega)]
theorem fit_congr {d : HD} {b n : Nat} {f h : Nat → Nat} (e : ∀ k, k < n → f k = h k) : fit d b n f = fit d b n h := by
  unfold fit
  apply bs_congr
  intro w _
  rw [beg_congr e]
def stF (d : HD) (q : QD) (s l : Nat) : Option QD := if qZ q s < 12 then (if fitQ d (qAdd q s l 9 0) s = 0 then none else some (qAdd (qDec q s (qZ q s)) s l 9 0)) else none
def stG (q : QD) (s l : Nat) : Option QD := if qZ q s < 12 then some (qAdd q s l 5 1) else none
def mW (d : HD) (q : QD) (s w : Nat) : Bool := tb (fitQ d q s) w && decide (hZ d w = qZ q s - qP q s)
def stM (d : HD) (q : QD) (s : Nat) : Option QD := (lst (mW d q s) (hN d) 0).map (qTell q s)
def stC (q : QD) (s : Nat) : Option QD := if qP q s < qZ q s then some (qChip q s) else none
def stp (d : HD) (q : QD) (k s l : Nat) : Option QD := if s < hS d ∧ tb (qS q) s = false then (if k = 0 then stF d q s l else if k = 1 then stG q s l else if k = 2 then stM d q s else if k = 3 then stC q s else some (qSpl q s)) else none
theorem qDec_w {d : HD} {n m s : Nat} {q : QD} (h : QW d n q) : QW d n (qDec q s m) := by
  refine ⟨h.1, fun j hj => ?_⟩
  obtain ⟨a1, a2, a3, a4, a5, a6⟩ := h.2 j hj
  refine ⟨a1, a2, a3, a4, a5, fun k hk => ?_⟩
  obtain ⟨b1, b2, b3⟩ := a6 k hk
  refine ⟨b1, ?_, b3⟩
  show (if j = s ∧ k < m then qD q j k - 1 else qD q j k) ≤ 9
  split <;> omega
theorem qAdd_w {d : HD} {n s l p f : Nat} {q : QD} (h : QW d n q) (hz : qZ q s < 12) (hl : l < 6) (hp : p ≤ 9) (hf : f ≤ 1) : QW d n (qAdd q s l p f) := by
  refine ⟨?_, fun j hj => ?_⟩
  · show max (qF q) (qZ q s + 1) ≤ 12
    have := h.1
    omega
  · obtain ⟨a1, a2, a3, a4, a5, a6⟩ := h.2 j hj
    by_cases e : j = s
    · subst e
      refine ⟨?_, ?_, ?_, a4, a5, fun k hk => ?_⟩
      · show qP q j ≤ up1 (qZ q) j (qZ q j + 1) j
        rw [up1_s]; omega
      · show up1 (qZ q) j (qZ q j + 1) j ≤ 12
        rw [up1_s]; omega
      · show up1 (qZ q) j (qZ q j + 1) j ≤ max (qF q) (qZ q j + 1)
        rw [up1_s]; omega
      · have hk : k < up1 (qZ q) j (qZ q j + 1) j := hk
        rw [up1_s] at hk
        show up2 (qL q) j (qZ q j) l j k < 6 ∧ up2 (qD q) j (qZ q j) p j k ≤ 9 ∧ up2 (qG q) j (qZ q j) f j k ≤ 1
        by_cases e2 : k = qZ q j
        · subst e2; rw [up2_s, up2_s, up2_s]; exact ⟨hl, hp, hf⟩
        · rw [up2_n (fun h => e2 h.2), up2_n (fun h => e2 h.2), up2_n (fun h => e2 h.2)]; exact a6 k (by omega)
    · refine ⟨?_, ?_, ?_, a4, a5, fun k hk => ?_⟩
      · show qP q j ≤ up1 (qZ q) s (qZ q s + 1) j
        rw [up1_n e]; exact a1
      · show up1 (qZ q) s (qZ q s + 1) j ≤ 12
        rw [up1_n e]; exact a2
      · show up1 (qZ q) s (qZ q s + 1) j ≤ max (qF q) (qZ q s + 1)
        rw [up1_n e]; omega
      · have hk : k < up1 (qZ q) s (qZ q s + 1) j := hk
        rw [up1_n e] at hk
        show up2 (qL q) s (qZ q s) l j k < 6 ∧ up2 (qD q) s (qZ q s) p j k ≤ 9 ∧ up2 (qG q) s (qZ q s) f j k ≤ 1
        rw [up2_n (fun h => e h.1), up2_n (fun h => e h.1), up2_n (fun h => e h.1)]; exact a6 k hk
theorem QW.up {d : HD} {n m : Nat} {q : QD} (h : QW d n q) (hm : n ≤ m) : QW d m q := by
  refine ⟨h.1, fun j hj => ?_⟩
  obtain ⟨a1, a2, a3, a4, a5, a6⟩ := h.2 j hj
  exact ⟨a1, a2, a3, by omega, a5, a6⟩
theorem stp_w {d : HD} {n k s l : Nat} {q q' : QD} (h : QW d n q) (hl : k ≤ 1 → l < 6) (e : stp d q k s l = some q') : QW d (n + 1) q' := by
  unfold stp at e
  by_cases h1 : s < hS d ∧ tb (qS q) s = false
  · rw [if_pos h1] at e
    by_cases k0 : k = 0
    · rw [if_pos k0] at e
      unfold stF at e
      by_cases hz : qZ q s < 12
      · rw [if_pos hz] at e
        by_cases hf : fitQ d (qAdd q s l 9 0) s = 0
        · rw [if_pos hf] at e; cases e
        · rw [if_neg hf] at e; cases e
          exact (qAdd_w (qDec_w h) hz (hl (by omega)) (by omega) (by omega)).up (by omega)
      · rw [if_neg hz] at e; cases e
    · rw [if_neg k0] at e
      by_cases k1 : k = 1
      · rw [if_pos k1] at e
        unfold stG at e
        by_cases hz : qZ q s < 12
        · rw [if_pos hz] at e; cases e
          exact (qAdd_w h hz (hl (by omega)) (by omega) (by omega)).up (by omega)
        · rw [if_neg hz] at e; cases e
      · rw [if_neg k1] at e
        by_cases k2 : k = 2
        · rw [if_pos k2] at e
          unfold stM at e
          cases hw : lst (mW d q s) (hN d) 0 with
          | none => rw [hw] at e; cases e
          | some w =>
            rw [hw] at e
            cases e
            obtain ⟨-, -, l3⟩ := lst_some _ _ _ hw
            refine ⟨h.1, fun j hj => ?_⟩
            obtain ⟨a1, a2, a3, a4, a5, a6⟩ := h.2 j hj
            show up1 (qP q) s (qZ q s) j ≤ qZ q j ∧ qZ q j ≤ 12 ∧ qZ q j ≤ qF q ∧ up1 (qT q) s (qT q s + 1) j ≤ n + 1 ∧ up1 (qB q) s (w + 1) j ≤ hN d ∧ ∀ k, k < qZ q j → qL q j k < 6 ∧ qD q j k ≤ 9 ∧ qG q j k ≤ 1
            by_cases e : j = s
            · subst e
              rw [up1_s, up1_s, up1_s]
              exact ⟨Nat.le_refl _, a2, a3, by omega, by omega, a6⟩
            · rw [up1_n e, up1_n e, up1_n e]
              exact ⟨a1, a2, a3, by omega, a5, a6⟩
        · rw [if_neg k2] at e
          by_cases k3 : k = 3
          · rw [if_pos k3] at e
            unfold stC at e
            by_cases hc : qP q s < qZ q s
            · rw [if_pos hc] at e; cases e
              refine ⟨h.1, fun j hj => ?_⟩
              obtain ⟨a1, a2, a3, a4, a5, a6⟩ := h.2 j hj
              show qP q j ≤ up1 (qZ q) s (qZ q s - 1) j ∧ up1 (qZ q) s (qZ q s - 1) j ≤ 12 ∧ up1 (qZ q) s (qZ q s - 1) j ≤ qF q ∧ qT q j ≤ n + 1 ∧ qB q j ≤ hN d ∧ ∀ k, k < up1 (qZ q) s (qZ q s - 1) j → qL q j k < 6 ∧ qD q j k ≤ 9 ∧ qG q j k ≤ 1
              by_cases e : j = s
              · subst e
                rw [up1_s]
                exact ⟨by omega, by omega, by omega, by omega, a5, fun k hk => a6 k (by omega)⟩
              · rw [up1_n e]
                exact ⟨a1, a2, a3, by omega, a5, a6⟩
            · rw [if_neg hc] at e; cases e
          · rw [if_neg k3] at e; cases e
            exact h.up (by omega)
  · rw [if_neg h1] at e; cases e
/-- rows at these addresses hold a state -/
def RelA (z p t b L D G : Nat) (I : Nat → Nat → Int32) (q : QD) : Prop := ∀ s, s < 4 → I z s = nI (qZ q s) ∧ I p s = nI (qP q s) ∧ I t s = nI (qT q s) ∧ I b s = bI (qB q s) ∧ ∀ k, k < qZ q s → I L (12 * s + k) = nI (qL q s k) ∧ I D (12 * s + k) = nI (qD q s k) ∧ I G (12 * s + k) = nI (qG q s k)
section REL
variable {z p t b L D G : Nat} {I J : Nat → Nat → Int32} {q : QD}
theorem RelA.same (R : RelA z p t b L D G I q) (hz : J z = I z) (hp : J p = I p) (ht : J t = I t) (hb : J b = I b) (hL : J L = I L) (hD : J D = I D) (hG : J G = I G) : RelA z p t b L D G J q := by
  unfold RelA
  rw [hz, hp, ht, hb, hL, hD, hG]
  exact R
theorem RelA.put {s : Nat} (R : RelA z p t b L D G I q) (hs : ∀ j, j < 4 → qZ q j ≤ 12) (h12 : qZ q s < 12) (hz : J z = I z) (hp : J p = I p) (ht : J t = I t) (hb : J b = I b) (hL : ∀ i, i ≠ 12 * s + qZ q s → J L i = I L i) (hD : ∀ i, i ≠ 12 * s + qZ q s → J D i = I D i) (hG : ∀ i, i ≠ 12 * s + qZ q s → J G i = I G i) : RelA z p t b L D G J q := by
  intro j hj
  obtain ⟨a1, a2, a3, a4, a5⟩ := R j hj
  refine ⟨by rw [hz]; exact a1, by rw [hp]; exact a2, by rw [ht]; exact a3, by rw [hb]; exact a4, fun k hk => ?_⟩
  have hk12 := hs j hj
  have ne : 12 * j + k ≠ 12 * s + qZ q s := by
    by_cases e : j = s
    · subst e; omega
    · omega
  rw [hL _ ne, hD _ ne, hG _ ne]
  exact a5 k hk
theorem RelA.add {s l x f : Nat} (R : RelA z p t b L D G I q) (hs : ∀ j, j < 4 → qZ q j ≤ 12) (h12 : qZ q s < 12) (hz : J z s = nI (qZ q s + 1)) (hz' : ∀ j, j ≠ s → J z j = I z j) (hp : J p = I p) (ht : J t = I t) (hb : J b = I b) (hL : J L (12 * s + qZ q s) = nI l) (hL' : ∀ i, i ≠ 12 * s + qZ q s → J L i = I L i) (hD : J D (12 * s + qZ q s) = nI x) (hD' : ∀ i, i ≠ 12 * s + qZ q s → J D i = I D i) (hG : J G (12 * s + qZ q s) = nI f) (hG' : ∀ i, i ≠ 12 * s + qZ q s → J G i = I G i) : RelA z p t b L D G J (qAdd q s l x f) := by
  intro j hj
  obtain ⟨a1, a2, a3, a4, a5⟩ := R j hj
  have hk12 := hs j hj
  show J z j = nI (up1 (qZ q) s (qZ q s + 1) j) ∧ J p j = nI (qP q j) ∧ J t j = nI (qT q j) ∧ J b j = bI (qB q j) ∧ ∀ k, k < up1 (qZ q) s (qZ q s + 1) j → J L (12 * j + k) = nI (up2 (qL q) s (qZ q s) l j k) ∧ J D (12 * j + k) = nI (up2 (qD q) s (qZ q s) x j k) ∧ J G (12 * j + k) = nI (up2 (qG q) s (qZ q s) f j k)
  by_cases e : j = s
  · subst e
    rw [up1_s]
    refine ⟨hz, by rw [hp]; exact a2, by rw [ht]; exact a3, by rw [hb]; exact a4, fun k hk => ?_⟩
    by_cases e2 : k = qZ q j
    · subst e2; rw [up2_s, up2_s, up2_s]; exact ⟨hL, hD, hG⟩
    · rw [up2_n (fun h => e2 h.2), up2_n (fun h => e2 h.2), up2_n (fun h => e2 h.2), hL' _ (by omega), hD' _ (by omega), hG' _ (by omega)]
      exact a5 k (by omega)
  · rw [up1_n e]
    refine ⟨by rw [hz' j e]; exact a1, by rw [hp]; exact a2, by rw [ht]; exact a3, by rw [hb]; exact a4, fun k hk => ?_⟩
    rw [up2_n (fun h => e h.1), up2_n (fun h => e h.1), up2_n (fun h => e h.1), hL' _ (by omega), hD' _ (by omega), hG' _ (by omega)]
    exact a5 k hk
theorem RelA.dec {s k : Nat} (R : RelA z p t b L D G I (qDec q s k)) (hs : ∀ j, j < 4 → qZ q j ≤ 12) (hk : k < qZ q s) (h12 : qZ q s ≤ 12) (hz : J z = I z) (hp : J p = I p) (ht : J t = I t) (hb : J b = I b) (hL : J L = I L) (hG : J G = I G) (hD : J D (12 * s + k) = nI (qD q s k - 1)) (hD' : ∀ i, i ≠ 12 * s + k → J D i = I D i) : RelA z p t b L D G J (qDec q s (k + 1)) := by
  intro j hj
  obtain ⟨a1, a2, a3, a4, a5⟩ := R j hj
  have hk12 := hs j hj
  refine ⟨by rw [hz]; exact a1, by rw [hp]; exact a2, by rw [ht]; exact a3, by rw [hb]; exact a4, fun i hi => ?_⟩
  obtain ⟨b1, b2, b3⟩ := a5 i hi
  have hi : i < qZ q j := hi
  refine ⟨by rw [hL]; exact b1, ?_, by rw [hG]; exact b3⟩
  show J D (12 * j + i) = nI (if j = s ∧ i < k + 1 then qD q j i - 1 else qD q j i)
  have b2 : I D (12 * j + i) = nI (if j = s ∧ i < k then qD q j i - 1 else qD q j i) := b2
  by_cases e : j = s ∧ i = k
  · obtain ⟨rfl, rfl⟩ := e
    rw [if_pos ⟨rfl, by omega⟩]; exact hD
  · have ne : 12 * j + i ≠ 12 * s + k := by
      intro h
      by_cases e2 : j = s
      · subst e2; exact e ⟨rfl, by omega⟩
      · omega
    rw [hD' _ ne, b2]
    by_cases c : j = s ∧ i < k
    · rw [if_pos c, if_pos ⟨c.1, by omega⟩]
    · rw [if_neg c, if_neg (fun h => by
        by_cases e2 : i = k
        · exact e ⟨h.1, e2⟩
        · exact c ⟨h.1, by omega⟩)]
theorem RelA.tell {s w : Nat} (R : RelA z p t b L D G I q) (hz : J z = I z) (hL : J L = I L) (hD : J D = I D) (hG : J G = I G) (hp : J p s = nI (qZ q s)) (hp' : ∀ j, j ≠ s → J p j = I p j) (ht : J t s = nI (qT q s + 1)) (ht' : ∀ j, j ≠ s → J t j = I t j) (hb : J b s = nI w) (hb' : ∀ j, j ≠ s → J b j = I b j) : RelA z p t b L D G J (qTell q s w) := by
  intro j hj
  obtain ⟨a1, a2, a3, a4, a5⟩ := R j hj
  show J z j = nI (qZ q j) ∧ J p j = nI (up1 (qP q) s (qZ q s) j) ∧ J t j = nI (up1 (qT q) s (qT q s + 1) j) ∧ J b j = bI (up1 (qB q) s (w + 1) j) ∧ ∀ k, k < qZ q j → J L (12 * j + k) = nI (qL q j k) ∧ J D (12 * j + k) = nI (qD q j k) ∧ J G (12 * j + k) = nI (qG q j k)
  refine ⟨by rw [hz]; exact a1, ?_, ?_, ?_, fun k hk => by rw [hL, hD, hG]; exact a5 k hk⟩
  · by_cases e : j = s
    · subst e; rw [up1_s]; exact hp
    · rw [up1_n e, hp' j e]; exact a2
  · by_cases e : j = s
    · subst e; rw [up1_s]; exact ht
    · rw [up1_n e, ht' j e]; exact a3
  · by_cases e : j = s
    · subst e; rw [up1_s]; exact hb
    · rw [up1_n e, hb' j e]; exact a4
theorem RelA.chip {s : Nat} (R : RelA z p t b L D G I q) (hz : J z s = nI (qZ q s - 1)) (hz' : ∀ j, j ≠ s → J z j = I z j) (hp : J p = I p) (ht : J t = I t) (hb : J b = I b) (hL : J L = I L) (hD : J D = I D) (hG : J G = I G) : RelA z p t b L D G J (qChip q s) := by
  intro j hj
  obtain ⟨a1, a2, a3, a4, a5⟩ := R j hj
  show J z j = nI (up1 (qZ q) s (qZ q s - 1) j) ∧ J p j = nI (qP q j) ∧ J t j = nI (qT q j) ∧ J b j = bI (qB q j) ∧ ∀ k, k < up1 (qZ q) s (qZ q s - 1) j → J L (12 * j + k) = nI (qL q j k) ∧ J D (12 * j + k) = nI (qD q j k) ∧ J G (12 * j + k) = nI (qG q j k)
  by_cases e : j = s
  · subst e
    rw [up1_s]
    exact ⟨hz, by rw [hp]; exact a2, by rw [ht]; exact a3, by rw [hb]; exact a4, fun k hk => by rw [hL, hD, hG]; exact a5 k (by omega)⟩
  · rw [up1_n e]
    exact ⟨by rw [hz' j e]; exact a1, by rw [hp]; exact a2, by rw [ht]; exact a3, by rw [hb]; exact a4, fun k hk => by rw [hL, hD, hG]; exact a5 k hk⟩
end REL
