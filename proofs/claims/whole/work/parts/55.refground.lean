/-! ===== the reference's stones: deeds ===== -/
theorem RelA.undo {z p t b L D G : Nat} {I J : Nat → Nat → Int32} {q : QD} {s l x f : Nat} (R : RelA z p t b L D G I (qAdd q s l x f)) (hz : J z s = nI (qZ q s)) (hz' : ∀ j, j ≠ s → J z j = I z j) (hp : J p = I p) (ht : J t = I t) (hb : J b = I b) (hL : J L = I L) (hD : J D = I D) (hG : J G = I G) : RelA z p t b L D G J q := by
  intro j hj
  obtain ⟨a1, a2, a3, a4, a5⟩ := R j hj
  have a1 : I z j = nI (up1 (qZ q) s (qZ q s + 1) j) := a1
  have a5 : ∀ k, k < up1 (qZ q) s (qZ q s + 1) j → I L (12 * j + k) = nI (up2 (qL q) s (qZ q s) l j k) ∧ I D (12 * j + k) = nI (up2 (qD q) s (qZ q s) x j k) ∧ I G (12 * j + k) = nI (up2 (qG q) s (qZ q s) f j k) := a5
  by_cases e : j = s
  · subst e
    rw [up1_s] at a5
    refine ⟨hz, by rw [hp]; exact a2, by rw [ht]; exact a3, by rw [hb]; exact a4, fun k hk => ?_⟩
    have := a5 k (by omega)
    rw [up2_n (fun h => by omega), up2_n (fun h => by omega), up2_n (fun h => by omega)] at this
    rw [hL, hD, hG]; exact this
  · rw [up1_n e] at a1 a5
    refine ⟨by rw [hz' j e]; exact a1, by rw [hp]; exact a2, by rw [ht]; exact a3, by rw [hb]; exact a4, fun k hk => ?_⟩
    have := a5 k hk
    rw [up2_n (fun h => e h.1), up2_n (fun h => e h.1), up2_n (fun h => e h.1)] at this
    rw [hL, hD, hG]; exact this
def RS (I : Nat → Nat → Int32) (q : QD) : Prop := I 95 17 = qS q ∧ RelA 103 104 105 106 100 101 102 I q
def KR (I J : Nat → Nat → Int32) : Prop := (∀ c, c ≠ 95 → ¬ (100 ≤ c ∧ c ≤ 106) → J c = I c) ∧ ∀ k, k ≠ 17 → J 95 k = I 95 k
theorem KR.rf (I : Nat → Nat → Int32) : KR I I := ⟨fun _ _ _ => rfl, fun _ _ => rfl⟩
theorem KR.tr {I J K : Nat → Nat → Int32} (h : KR I J) (h2 : KR J K) : KR I K := ⟨fun c c1 c2 => (h2.1 c c1 c2).trans (h.1 c c1 c2), fun k hk => (h2.2 k hk).trans (h.2 k hk)⟩
theorem KR.m {I J : Nat → Nat → Int32} (h : KR I J) : Km I J := fun c hc => h.1 c (by omega) (by omega)
theorem KR.u {I J : Nat → Nat → Int32} (h : KR I J) (c k : Nat) (x : Int32) (hc : 100 ≤ c ∧ c ≤ 106) : KR I (zU J c k x) := ⟨fun b b1 b2 => by funext j; rw [zU_a _ _ (by omega), h.1 b b1 b2], fun k hk => by rw [zU_a _ _ (by omega)]; exact h.2 k hk⟩
theorem KR.u5 {I J : Nat → Nat → Int32} (h : KR I J) (x : Int32) : KR I (zU J 95 17 x) := ⟨fun b b1 b2 => by funext j; rw [zU_a _ _ b1, h.1 b b1 b2], fun k hk => by rw [zU_k _ _ hk]; exact h.2 k hk⟩
section REFGR
variable {g : zG} {I : Nat → Nat → Int32} {P : Nat → Nat → Option Nat} {d : HD} {q : QD} {n s h0 : Nat}
theorem KR.h {J : Nat → Nat → Int32} (k : KR I J) (D : MhD I h0 d) : MhD J h0 d := by
  unfold MhD MhA
  rw [k.2 13 (by decide), k.2 14 (by decide), k.2 15 (by decide), k.1 96 (by decide) (by decide)]
  exact D
theorem r_gStone {x : Nat} (S : Sg g) (W : HW d) (D : MhD I h0 d) (hx : x < 2 ^ 31) : Cl mX12_isStone [.ref 95, .int (nI x)] (g, I, P) (some (.int (zb (decide (x < hS d))))) (g, I, P) := by
  have h4 := W.1.2
  have e : (pk (nI x) (hS d)).isSome = decide (x < hS d) := by
    by_cases h : x < hS d
    · rw [pk_nI (by omega) h]; simp [h]
    · rw [pk_ge (nI_le (by omega) hx)]; simp [h]
  rw [← e]
  exact eX12_isStone (wX12_isStone_0 ⟨S.k 95 12 (by decide), _, by rw [D.2.2.1]; exact r_pk (by omega), zb_or _, rfl, rfl⟩)
theorem ix4 (S : Sg g) {c x : Nat} (hc : g.2.2 c = 4) (hx : x < 4) : vp_in (nI x) (g.2.2 c) ∧ (nI x).toNatClampNeg = x := by
  rw [hc]; exact ix rfl hx (by decide)
theorem r_begins0 {w : Nat} (S : Sg g) (Q : Sp P) (W : HW d) (D : MhD I h0 d) (G : RS I q) (V : QW d n q) (hs : s < 4) (hw : w < hN d) : Cl mX12_begins0 [.ref 95, .int (nI w), .int (nI s)] (g, I, P) (some (.int (zb (beg d (fun k => qL q s (qP q s + k)) (qZ q s - qP q s) w)))) (g, I, P) := by
  have hz := (W.2.2.1 w hw).2
  obtain ⟨a1, a2, a3, a4, a5⟩ := G.2 s hs
  obtain ⟨w1, w2, w3, w4, w5, w6⟩ := V.2 s hs
  obtain ⟨i1, i2⟩ := ix4 S (c := 103) (S.l 103 4 (by decide)) hs
  obtain ⟨j1, j2⟩ := ix4 S (c := 104) (S.l 104 4 (by decide)) hs
  have loop : ∀ m k c, k + m = qZ q s - qP q s → (c = true → qZ q s - qP q s ≤ hZ d w ∧ eqN (hL d w) (fun k => qL q s (qP q s + k)) k = true) → (c = false → beg d (fun k => qL q s (qP q s + k)) (qZ q s - qP q s) w = false) → Zt none mX12_begins0 0 0 35 [(0, .ref 95), (1, .int (nI w)), (2, .int (nI s)), (3, .int (zb c)), (4, .int (nI (qP q s + k)))] [] (g, I, P) (some (.int (zb (beg d (fun k => qL q s (qP q s + k)) (qZ q s - qP q s) w)))) (g, I, P) := by
    intro m
    induction m with
    | zero =>
      intro k c hk h1 h2
      obtain rfl : k = qZ q s - qP q s := hk
      refine wX12_begins0_35 ⟨S.k 95 12 (by decide), 103, Q.p 95 21 103 (by decide), S.k 103 13 (by decide), i1, fun _ => ⟨zb_or _, ?_, rfl⟩, fun q => absurd (by rw [i2, a1]; exact nI_le (by omega) (by omega)) q⟩
      cases c with
      | false => rw [h2 rfl]
      | true => unfold beg; rw [(h1 rfl).2, decide_eq_true (h1 rfl).1]; rfl
    | succ m ih =>
      intro k c hk h1 h2
      refine wX12_begins0_35 ⟨S.k 95 12 (by decide), 103, Q.p 95 21 103 (by decide), S.k 103 13 (by decide), i1, fun h => ?_, fun _ => zp (fun hc => ?_) (fun hc => ?_)⟩
      · rw [i2, a1] at h
        exact absurd h (nI_ge (by omega) (by omega))
      · have nx := ih (k + 1) false (by omega) (fun h => (nomatch h)) (fun _ => h2 hc)
        rw [nI_1]; exact nx
      · obtain ⟨b1, b2⟩ := h1 hc
        have wl := (w6 (qP q s + k) (by omega)).1
        have al := (a5 (qP q s + k) (by omega)).1
        have hl := W.2.2.2.2 w k hw (by omega)
        obtain ⟨v1, v2⟩ := ix (x := 12 * nI s + nI (qP q s + k)) (k := 12 * s + (qP q s + k)) (N := 48) (m12 _ _) (by omega) (by decide)
        refine ⟨S.k 95 12 (by decide), 104, Q.p 95 22 104 (by decide), S.k 104 13 (by decide), j1, S.k 95 12 (by decide), _, by rw [j2, a2, pk_sub (by omega), show qP q s + k - qP q s = k by omega]; exact r_letterOf S Q W D hw (by omega), S.k 95 12 (by decide), 100, Q.p 95 18 100 (by decide), S.k 100 13 (by decide), by rw [S.l 100 48 (by decide)]; exact v1, pq_eq (hL d w k) (qL q s (qP q s + k)) (fun ne => ?_) (fun eq => ?_) rfl (by rw [v2]; exact al)⟩
        · have nx := ih (k + 1) false (by omega) (fun h => (nomatch h)) (fun _ => by
            have : eqN (hL d w) (fun k => qL q s (qP q s + k)) (k + 1) = false := by show (eqN _ _ k && _) = false; simp [ne]
            unfold beg
            rw [eqN_f this _ (by omega), Bool.and_false])
          rw [nI_1]; exact nx
        · have nx := ih (k + 1) true (by omega) (fun _ => ⟨b1, by show (eqN _ _ k && _) = true; simp [eq, b2]⟩) (fun h => (nomatch h))
          rw [nI_1]; exact nx
  refine eX12_begins0 (wX12_begins0_0 ⟨S.k 95 12 (by decide), _, r_longOf S Q W D hw, S.k 95 12 (by decide), 103, Q.p 95 21 103 (by decide), S.k 103 13 (by decide), i1, S.k 95 12 (by decide), 104, Q.p 95 22 104 (by decide), S.k 104 13 (by decide), j1, pk_lt (hZ d w) (qZ q s - qP q s) (fun h => ⟨S.k 95 12 (by decide), 104, Q.p 95 22 104 (by decide), S.k 104 13 (by decide), j1, ?_⟩) (fun h => ⟨S.k 95 12 (by decide), 104, Q.p 95 22 104 (by decide), S.k 104 13 (by decide), j1, ?_⟩) rfl (by rw [i2, a1, a2, pk_sub w1])⟩)
  · rw [j2, a2]
    exact loop (qZ q s - qP q s) 0 false (by omega) (fun h => (nomatch h)) (fun _ => by unfold beg; rw [decide_eq_false (by omega), Bool.false_and])
  · rw [j2, a2]
    exact loop (qZ q s - qP q s) 0 true (by omega) (fun _ => ⟨h, rfl⟩) (fun h => (nomatch h))
theorem r_gfit (S : Sg g) (Q : Sp P) (W : HW d) (D : MhD I h0 d) (G : RS I q) (V : QW d n q) (hs : s < 4) : Cl mX12_fitting [.ref 95, .int (nI s)] (g, I, P) (some (.int (fitQ d q s))) (g, I, P) := by
  have h10 := W.2.1
  obtain ⟨a1, a2, a3, a4, a5⟩ := G.2 s hs
  obtain ⟨w1, w2, w3, w4, w5, w6⟩ := V.2 s hs
  obtain ⟨i1, i2⟩ := ix4 S (c := 106) (S.l 106 4 (by decide)) hs
  have key : ∀ m w, w + m = hN d → Zt none mX12_fitting 0 0 4 [(0, .ref 95), (1, .int (nI s)), (2, .int (bs (fun w => tb (hBw d (qB q s)) w && beg d (fun k => qL q s (qP q s + k)) (qZ q s - qP q s) w) w)), (3, .int (nI w))] [] (g, I, P) (some (.int (fitQ d q s))) (g, I, P) := by
    intro m
    induction m with
    | zero =>
      intro w hw
      obtain rfl : w = hN d := hw
      exact wX12_fitting_4 ⟨S.k 95 12 (by decide), fun _ => ⟨rfl, rfl⟩, fun q => absurd (by rw [D.2.2.2.1]; exact Int32.le_refl _) q⟩
    | succ m ih =>
      intro w hw
      have ih := ih (w + 1) (by omega)
      refine wX12_fitting_4 ⟨S.k 95 12 (by decide), fun h => ?_, fun _ => ⟨S.k 95 12 (by decide), 106, Q.p 95 24 106 (by decide), S.k 106 13 (by decide), i1, S.k 95 12 (by decide), _, by rw [i2, a4]; exact r_behindB S Q W D w5, _, r_holds, zp (fun h => ?_) (fun h => ⟨S.k 95 12 (by decide), _, r_begins0 S Q W D G V hs (by omega), zp (fun h2 => ?_) (fun h2 y hy => ?_)⟩)⟩⟩
      · rw [D.2.2.2.1] at h
        exact absurd h (nI_ge (by omega) (by omega))
      · rw [bs_f (by rw [h]; rfl)] at ih
        rw [or_z, nI_1]; exact ih
      · rw [bs_f (by rw [h2, Bool.and_false])] at ih
        rw [or_z, nI_1]; exact ih
      · rw [bs_t (by rw [h, h2]; rfl)] at ih
        rw [hy, nI_1]; exact ih
  exact eX12_fitting (wX12_fitting_0 (key (hN d) 0 (by omega)))
theorem r_puts {l p f : Nat} (S : Sg g) (Q : Sp P) (G : RS I q) (V : QW d n q) (hs : s < 4) (hz : qZ q s < 12) (hf : f = 0 ∨ f = 1) : ∃ J, Cl mX12_puts [.ref 95, .int (nI s), .int (nI l), .int (nI p), .int (nI f)] (g, I, P) none (g, J, P) ∧ RS J (qAdd q s l p f) ∧ KR I J := by
  obtain ⟨a1, a2, a3, a4, a5⟩ := G.2 s hs
  obtain ⟨i1, i2⟩ := ix4 S (c := 103) (S.l 103 4 (by decide)) hs
  obtain ⟨v1, v2⟩ := ix (x := nI (12 * s + qZ q s)) (k := 12 * s + qZ q s) (N := 48) rfl (by omega) (by decide)
  refine ⟨zU (zU (zU (zU I 100 (12 * s + qZ q s) (nI l)) 101 (12 * s + qZ q s) (nI p)) 102 (12 * s + qZ q s) (nI f)) 103 s (nI (qZ q s + 1)), eX12_puts (wX12_puts_0 ⟨S.k 95 12 (by decide), 103, Q.p 95 21 103 (by decide), S.k 103 13 (by decide), i1, fun y hy => ?_⟩), ⟨?_, G.2.add (fun j hj => (V.2 j hj).2.1) hz ?_ ?_ ?_ ?_ ?_ ?_ ?_ ?_ ?_ ?_ ?_⟩, ((((KR.rf I).u 100 _ _ (by decide)).u 101 _ _ (by decide)).u 102 _ _ (by decide)).u 103 _ _ (by decide)⟩
  · rw [i2, a1, m12] at hy
    subst hy
    refine ⟨S.k 95 12 (by decide), 100, Q.p 95 18 100 (by decide), S.k 100 13 (by decide), by rw [S.l 100 48 (by decide)]; exact v1, S.k 95 12 (by decide), 101, Q.p 95 19 101 (by decide), S.k 101 13 (by decide), by rw [S.l 101 48 (by decide)]; exact v1, S.k 95 12 (by decide), 102, Q.p 95 20 102 (by decide), S.k 102 14 (by decide), by rw [S.l 102 48 (by decide)]; exact v1, ?_, S.k 95 12 (by decide), 103, Q.p 95 21 103 (by decide), S.k 103 13 (by decide), i1, S.k 103 13 (by decide), i1, rfl, ?_⟩
    · rcases hf with rfl | rfl
      · exact Or.inl rfl
      · exact Or.inr rfl
    · rw [v2, i2, zU_a _ _ (by decide), zU_a _ _ (by decide), zU_a _ _ (by decide), a1, nI_1]
  · simp [zU, G.1, qAdd]
  · simp [zU]
  · intro j hj; simp [zU, hj]
  · funext j; simp [zU]
  · funext j; simp [zU]
  · funext j; simp [zU]
  · simp [zU]
  · intro i hi; simp [zU, hi]
  · simp [zU]
  · intro i hi; simp [zU, hi]
  · simp [zU]
  · intro i hi; simp [zU, hi]
theorem r_freezes {l : Nat} (S : Sg g) (Q : Sp P) (W : HW d) (D : MhD I h0 d) (G : RS I q) (V : QW d n q) (hs : s < 4) (hl : l < 6) : ∃ J, Cl mX12_freezes [.ref 95, .int (nI s), .int (nI l)] (g, I, P) (some (.int (zb (stF d q s l).isSome))) (g, J, P) ∧ RS J ((stF d q s l).getD q) ∧ KR I J := by
  obtain ⟨a1, a2, a3, a4, a5⟩ := G.2 s hs
  obtain ⟨w1, w2, w3, w4, w5, w6⟩ := V.2 s hs
  obtain ⟨i1, i2⟩ := ix4 S (c := 103) (S.l 103 4 (by decide)) hs
  unfold stF
  by_cases hz : qZ q s < 12
  · rw [if_pos hz]
    obtain ⟨J1, z1, G1, K1⟩ := r_puts (l := l) (p := 9) (f := 0) S Q G V hs hz (Or.inl rfl)
    have V1 : QW d n (qAdd q s l 9 0) := qAdd_w V hz hl (by decide) (by decide)
    have cf := r_gfit S Q W (K1.h D) G1 V1 hs
    have e103 : J1 103 s = nI (qZ q s + 1) := by
      have := (G1.2 s hs).1
      rw [show qZ (qAdd q s l 9 0) s = qZ q s + 1 from up1_s _ _ _] at this
      exact this
    by_cases hf : fitQ d (qAdd q s l 9 0) s = 0
    · rw [if_pos hf]
      refine ⟨zU J1 103 s (nI (qZ q s)), eX12_freezes (wX12_freezes_0 ⟨S.k 95 12 (by decide), 103, Q.p 95 21 103 (by decide), S.k 103 13 (by decide), i1, pq_eq (qZ q s) 12 (fun _ => ⟨S.k 95 12 (by decide), _, z1, S.k 95 12 (by decide), _, cf, fun h => absurd hf h, fun _ => ⟨S.k 95 12 (by decide), 103, Q.p 95 21 103 (by decide), S.k 103 13 (by decide), i1, S.k 103 13 (by decide), i1, rfl, ?_⟩⟩) (fun h => absurd hz (by omega)) (by rw [i2]; exact a1) rfl⟩), ⟨?_, G1.2.undo ?_ ?_ ?_ ?_ ?_ ?_ ?_ ?_⟩, K1.u 103 _ _ (by decide)⟩
      · rw [i2, e103, nI_d1]
      · rw [zU_a _ _ (by decide)]; exact G1.1
      · exact zU_s _ _ _ _
      · intro j hj; simp [zU, hj]
      · funext j; simp [zU]
      · funext j; simp [zU]
      · funext j; simp [zU]
      · funext j; simp [zU]
      · funext j; simp [zU]
      · funext j; simp [zU]
    · rw [if_neg hf]
      have wall : ∀ j, j < 4 → qZ (qAdd q s l 9 0) j ≤ 12 := fun j hj => (V1.2 j hj).2.1
      have eZ : qZ (qAdd q s l 9 0) s = qZ q s + 1 := up1_s _ _ _
      have loop : ∀ m k (K : Nat → Nat → Int32), k + m = qZ q s → KR I K → RS K (qDec (qAdd q s l 9 0) s k) → ∃ J, Zt none mX12_freezes 0 0 44 [(0, .ref 95), (1, .int (nI s)), (3, .int (nI k))] [] (g, K, P) (some (.int 1)) (g, J, P) ∧ RS J (qAdd (qDec q s (qZ q s)) s l 9 0) ∧ KR I J := by
        intro m
        induction m with
        | zero =>
          intro k K hk hK hG
          obtain rfl : k = qZ q s := hk
          have e3 : K 103 s = nI (qZ q s + 1) := by have := (hG.2 s hs).1; rw [show qZ (qDec (qAdd q s l 9 0) s (qZ q s)) s = qZ q s + 1 from eZ] at this; exact this
          rw [qDec_add] at hG
          exact ⟨K, wX12_freezes_44 ⟨S.k 95 12 (by decide), 103, Q.p 95 21 103 (by decide), S.k 103 13 (by decide), i1, fun _ => ⟨rfl, rfl⟩, fun q => absurd (by rw [i2, e3, nI_d1]; exact Int32.le_refl _) q⟩, hG, hK⟩
        | succ m ih =>
          intro k K hk hK hG
          have e3 : K 103 s = nI (qZ q s + 1) := by have := (hG.2 s hs).1; rw [show qZ (qDec (qAdd q s l 9 0) s k) s = qZ q s + 1 from eZ] at this; exact this
          have eD : qD (qAdd q s l 9 0) s k = qD q s k := up2_n (fun h => by omega)
          have e1 : K 101 (12 * s + k) = nI (qD q s k) := by
            have := ((hG.2 s hs).2.2.2.2 k (by show k < qZ (qAdd q s l 9 0) s; omega)).2.1
            have e : qD (qDec (qAdd q s l 9 0) s k) s k = qD (qAdd q s l 9 0) s k := by
              show (if s = s ∧ k < k then _ else _) = _
              rw [if_neg (fun h => Nat.lt_irrefl _ h.2)]
            rw [e, eD] at this; exact this
          have wd := (w6 k (by omega)).2.1
          obtain ⟨v1, v2⟩ := ix (x := 12 * nI s + nI k) (k := 12 * s + k) (N := 48) (m12 _ _) (by omega) (by decide)
          obtain ⟨J, z, z2⟩ := ih (k + 1) (zU K 101 (12 * s + k) (nI (qD q s k - 1))) (by omega) (hK.u 101 _ _ (by decide)) ⟨by rw [zU_a _ _ (by decide)]; exact hG.1, hG.2.dec wall (by omega) (wall s hs) (by funext j; simp [zU]) (by funext j; simp [zU]) (by funext j; simp [zU]) (by funext j; simp [zU]) (by funext j; simp [zU]) (by funext j; simp [zU]) (by rw [zU_s, eD]) (fun i hi => by simp [zU, hi])⟩
          refine ⟨J, wX12_freezes_44 ⟨S.k 95 12 (by decide), 103, Q.p 95 21 103 (by decide), S.k 103 13 (by decide), i1, fun h => ?_, fun _ => ⟨S.k 95 12 (by decide), 101, Q.p 95 19 101 (by decide), S.k 101 13 (by decide), by rw [S.l 101 48 (by decide)]; exact v1, S.k 95 12 (by decide), 101, Q.p 95 19 101 (by decide), S.k 101 13 (by decide), by rw [S.l 101 48 (by decide)]; exact v1, pk_le (qD q s k) 0 (fun h => ⟨S.k 101 13 (by decide), by rw [S.l 101 48 (by decide)]; exact v1, ?_⟩) (fun h => ⟨S.k 101 13 (by decide), by rw [S.l 101 48 (by decide)]; exact v1, ?_⟩) (by rw [v2]; exact e1) rfl⟩⟩, z2⟩
          · rw [i2, e3, nI_d1] at h
            exact absurd h (nI_ge (by omega) (by omega))
          · rw [v2, e1, Int32.sub_zero, nI_1]
            rw [show qD q s k - 1 = qD q s k by omega] at z
            exact z
          · rw [v2, e1, nI_1, show nI (qD q s k) - 1 = nI (qD q s k - 1) from pk_sub (b := 1) (by omega)]
            exact z
      have e0 : qDec (qAdd q s l 9 0) s 0 = qAdd q s l 9 0 := by
        unfold qDec
        have : (fun j i => if j = s ∧ i < 0 then qD (qAdd q s l 9 0) j i - 1 else qD (qAdd q s l 9 0) j i) = qD (qAdd q s l 9 0) := by
          funext j i
          rw [if_neg (fun h => absurd h.2 (by omega))]
        rw [this]
      obtain ⟨J, z, z2⟩ := loop (qZ q s) 0 J1 (by omega) K1 (by rw [e0]; exact G1)
      exact ⟨J, eX12_freezes (wX12_freezes_0 ⟨S.k 95 12 (by decide), 103, Q.p 95 21 103 (by decide), S.k 103 13 (by decide), i1, pq_eq (qZ q s) 12 (fun _ => ⟨S.k 95 12 (by decide), _, z1, S.k 95 12 (by decide), _, cf, fun _ => z, fun h => absurd h hf⟩) (fun h => absurd hz (by omega)) (by rw [i2]; exact a1) rfl⟩), z2⟩
  · rw [if_neg hz]
    exact ⟨I, eX12_freezes (wX12_freezes_0 ⟨S.k 95 12 (by decide), 103, Q.p 95 21 103 (by decide), S.k 103 13 (by decide), i1, pq_eq (qZ q s) 12 (fun h => absurd (by omega) h) (fun _ => ⟨rfl, rfl⟩) (by rw [i2]; exact a1) rfl⟩), G, KR.rf I⟩
theorem r_tells (S : Sg g) (Q : Sp P) (W : HW d) (D : MhD I h0 d) (G : RS I q) (V : QW d n q) (hs : s < 4) : ∃ J, Cl mX12_tells [.ref 95, .int (nI s)] (g, I, P) (some (.int (zb (stM d q s).isSome))) (g, J, P) ∧ RS J ((stM d q s).getD q) ∧ KR I J := by
  have h10 := W.2.1
  obtain ⟨a1, a2, a3, a4, a5⟩ := G.2 s hs
  obtain ⟨w1, w2, w3, w4, w5, w6⟩ := V.2 s hs
  obtain ⟨i1, i2⟩ := ix4 S (c := 103) (S.l 103 4 (by decide)) hs
  obtain ⟨j1, j2⟩ := ix4 S (c := 104) (S.l 104 4 (by decide)) hs
  obtain ⟨k1, k2⟩ := ix4 S (c := 105) (S.l 105 4 (by decide)) hs
  obtain ⟨l1, l2⟩ := ix4 S (c := 106) (S.l 106 4 (by decide)) hs
  have cf := r_gfit S Q W D G V hs
  have key : ∀ m w, w + m = hN d → ∃ J, Zt none mX12_tells 0 0 2 [(0, .ref 95), (1, .int (nI s)), (2, .int (nI w))] [] (g, I, P) (some (.int (zb ((lst (mW d q s) m w).map (qTell q s)).isSome))) (g, J, P) ∧ RS J (((lst (mW d q s) m w).map (qTell q s)).getD q) ∧ KR I J := by
    intro m
    induction m with
    | zero =>
      intro w hw
      obtain rfl : w = hN d := hw
      exact ⟨I, wX12_tells_2 ⟨S.k 95 12 (by decide), fun _ => ⟨rfl, rfl⟩, fun q => absurd (by rw [D.2.2.2.1]; exact Int32.le_refl _) q⟩, G, KR.rf I⟩
    | succ m ih =>
      intro w hw
      have nb : ¬ I 95 15 ≤ nI w := by rw [D.2.2.2.1]; exact nI_ge (by omega) (by omega)
      have hz := (W.2.2.1 w (by omega)).2
      have eo : I 103 (nI s).toNatClampNeg - I 104 (nI s).toNatClampNeg = nI (qZ q s - qP q s) := by rw [i2, a1, a2, pk_sub w1]
      cases hm : mW d q s w with
      | false =>
        rw [lst_f hm]
        obtain ⟨J, z, z2⟩ := ih (w + 1) (by omega)
        rw [← nI_1] at z
        refine ⟨J, wX12_tells_2 ⟨S.k 95 12 (by decide), fun q => absurd q nb, fun _ => ⟨S.k 95 12 (by decide), _, cf, _, r_holds, zp (fun _ => z) (fun h => ⟨S.k 95 12 (by decide), _, r_longOf S Q W D (by omega), S.k 95 12 (by decide), 103, Q.p 95 21 103 (by decide), S.k 103 13 (by decide), i1, S.k 95 12 (by decide), 104, Q.p 95 22 104 (by decide), S.k 104 13 (by decide), j1, pk_eq (hZ d w) (qZ q s - qP q s) (fun h2 => ?_) (fun _ => z) rfl eo⟩)⟩⟩, z2⟩
        unfold mW at hm
        rw [h, decide_eq_true h2] at hm
        cases hm
      | true =>
        rw [lst_t hm]
        unfold mW at hm
        rw [Bool.and_eq_true] at hm
        have h2 := of_decide_eq_true hm.2
        refine ⟨_, wX12_tells_2 ⟨S.k 95 12 (by decide), fun q => absurd q nb, fun _ => ⟨S.k 95 12 (by decide), _, cf, _, r_holds, fun h => absurd h (by rw [hm.1]; decide), fun _ => ⟨S.k 95 12 (by decide), _, r_longOf S Q W D (by omega), S.k 95 12 (by decide), 103, Q.p 95 21 103 (by decide), S.k 103 13 (by decide), i1, S.k 95 12 (by decide), 104, Q.p 95 22 104 (by decide), S.k 104 13 (by decide), j1, pk_eq (hZ d w) (qZ q s - qP q s) (fun _ => ⟨S.k 95 12 (by decide), 105, Q.p 95 23 105 (by decide), S.k 105 13 (by decide), k1, S.k 105 13 (by decide), k1, S.k 95 12 (by decide), 106, Q.p 95 24 106 (by decide), S.k 106 13 (by decide), l1, S.k 95 12 (by decide), 104, Q.p 95 22 104 (by decide), S.k 95 12 (by decide), 103, Q.p 95 21 103 (by decide), S.k 103 13 (by decide), i1, S.k 104 13 (by decide), j1, rfl, rfl⟩) (fun h => absurd h2 h) rfl eo⟩⟩⟩, ⟨?_, G.2.tell (w := w) ?_ ?_ ?_ ?_ ?_ ?_ ?_ ?_ ?_ ?_⟩, (((KR.rf I).u 105 _ _ (by decide)).u 106 _ _ (by decide)).u 104 _ _ (by decide)⟩
        · simp [zU, G.1, qTell]
        · funext j; simp [zU]
        · funext j; simp [zU]
        · funext j; simp [zU]
        · funext j; simp [zU]
        · rw [i2, zU_s, zU_a _ _ (by decide), zU_a _ _ (by decide)]; exact a1
        · intro j hj; rw [i2]; simp [zU, hj]
        · rw [i2]; simp only [zU]; simp [a3, nI_1]
        · intro j hj; rw [i2]; simp [zU, hj]
        · rw [i2]; simp [zU]
        · intro j hj; rw [i2]; simp [zU, hj]
  obtain ⟨J, z, z2⟩ := key (hN d) 0 (by omega)
  exact ⟨J, eX12_tells (wX12_tells_0 z), z2⟩
theorem r_does {k l : Nat} {x : Int32} (S : Sg g) (Q : Sp P) (W : HW d) (D : MhD I h0 d) (G : RS I q) (V : QW d n q) (hk : k ≤ 4) (hs : s < 4) (hx : k ≤ 1 → x = nI l ∧ l < 6) : ∃ J, Cl mX12_does [.ref 95, .int (nI k), .int (nI s), .int x] (g, I, P) (some (.int (zb (stp d q k s l).isSome))) (g, J, P) ∧ RS J ((stp d q k s l).getD q) ∧ KR I J := by
  obtain ⟨i1, i2⟩ := ix4 S (c := 103) (S.l 103 4 (by decide)) hs
  obtain ⟨j1, j2⟩ := ix4 S (c := 104) (S.l 104 4 (by decide)) hs
  obtain ⟨a1, a2, a3, a4, a5⟩ := G.2 s hs
  obtain ⟨w1, w2, w3, w4, w5, w6⟩ := V.2 s hs
  have no : ∀ {r : Prop} (i : Nat), i < 2 ^ 31 → k ≠ i → nI k = nI i → r := fun i hi hne h => absurd ((nI_eq (by omega) hi).mp h) hne
  unfold stp
  by_cases h1 : s < hS d
  · have yes : ¬ zb (decide (s < hS d)) = 0 := by rw [decide_eq_true h1]; decide
    cases h2 : tb (qS q) s with
    | true =>
      rw [if_neg (fun h => absurd h.2 (by decide))]
      exact ⟨I, eX12_does (wX12_does_0 ⟨S.k 95 12 (by decide), _, r_gStone S W D (by omega), fun h => absurd h yes, fun _ => ⟨S.k 95 12 (by decide), _, by rw [G.1]; exact r_holds, fun h => absurd h (by rw [h2]; decide), fun _ => ⟨rfl, rfl⟩⟩⟩), G, KR.rf I⟩
    | false =>
      rw [if_pos ⟨h1, rfl⟩]
      have z0 : ¬ ¬ zb (tb (qS q) s) = 0 := by rw [h2]; decide
      by_cases k0 : k = 0
      · rw [if_pos k0]
        obtain ⟨J, z, z2⟩ := r_freezes (l := l) S Q W D G V hs (hx (by omega)).2
        rw [← (hx (by omega)).1] at z
        exact ⟨J, eX12_does (wX12_does_0 ⟨S.k 95 12 (by decide), _, r_gStone S W D (by omega), fun h => absurd h yes, fun _ => ⟨S.k 95 12 (by decide), _, by rw [G.1]; exact r_holds, fun _ => ⟨fun _ => ⟨S.k 95 12 (by decide), _, _, z, zb_or _, rfl, rfl⟩, fun h => no 1 (by decide) (by omega) h, fun h => no 2 (by decide) (by omega) h, fun h => no 3 (by decide) (by omega) h, fun h => absurd (by rw [k0]; rfl) h⟩, fun h => absurd h z0⟩⟩), z2⟩
      · rw [if_neg k0]
        by_cases k1 : k = 1
        · rw [if_pos k1]
          unfold stG
          by_cases hz : qZ q s < 12
          · rw [if_pos hz]
            obtain ⟨J, z, z2⟩ := r_puts (l := l) (p := 5) (f := 1) S Q G V hs hz (Or.inr rfl)
            rw [← (hx (by omega)).1] at z
            exact ⟨J, eX12_does (wX12_does_0 ⟨S.k 95 12 (by decide), _, r_gStone S W D (by omega), fun h => absurd h yes, fun _ => ⟨S.k 95 12 (by decide), _, by rw [G.1]; exact r_holds, fun _ => ⟨fun h => no 0 (by decide) (by omega) h, fun _ => ⟨S.k 95 12 (by decide), 103, Q.p 95 21 103 (by decide), S.k 103 13 (by decide), i1, pq_eq (qZ q s) 12 (fun _ => ⟨S.k 95 12 (by decide), _, z, rfl, rfl⟩) (fun h => absurd hz (by omega)) (by rw [i2]; exact a1) rfl⟩, fun h => no 2 (by decide) (by omega) h, fun h => no 3 (by decide) (by omega) h, fun _ h => absurd (by rw [k1]; rfl) h⟩, fun h => absurd h z0⟩⟩), z2⟩
          · rw [if_neg hz]
            exact ⟨I, eX12_does (wX12_does_0 ⟨S.k 95 12 (by decide), _, r_gStone S W D (by omega), fun h => absurd h yes, fun _ => ⟨S.k 95 12 (by decide), _, by rw [G.1]; exact r_holds, fun _ => ⟨fun h => no 0 (by decide) (by omega) h, fun _ => ⟨S.k 95 12 (by decide), 103, Q.p 95 21 103 (by decide), S.k 103 13 (by decide), i1, pq_eq (qZ q s) 12 (fun h => absurd (by omega) h) (fun _ => ⟨rfl, rfl⟩) (by rw [i2]; exact a1) rfl⟩, fun h => no 2 (by decide) (by omega) h, fun h => no 3 (by decide) (by omega) h, fun _ h => absurd (by rw [k1]; rfl) h⟩, fun h => absurd h z0⟩⟩), G, KR.rf I⟩
        · rw [if_neg k1]
          by_cases k2 : k = 2
          · rw [if_pos k2]
            obtain ⟨J, z, z2⟩ := r_tells S Q W D G V hs
            exact ⟨J, eX12_does (wX12_does_0 ⟨S.k 95 12 (by decide), _, r_gStone S W D (by omega), fun h => absurd h yes, fun _ => ⟨S.k 95 12 (by decide), _, by rw [G.1]; exact r_holds, fun _ => ⟨fun h => no 0 (by decide) (by omega) h, fun h => no 1 (by decide) (by omega) h, fun _ => ⟨S.k 95 12 (by decide), _, _, z, zb_or _, rfl, rfl⟩, fun h => no 3 (by decide) (by omega) h, fun _ _ h => absurd (by rw [k2]; rfl) h⟩, fun h => absurd h z0⟩⟩), z2⟩
          · rw [if_neg k2]
            by_cases k3 : k = 3
            · rw [if_pos k3]
              unfold stC
              by_cases hz : qP q s < qZ q s
              · rw [if_pos hz]
                refine ⟨zU I 103 s (nI (qZ q s - 1)), eX12_does (wX12_does_0 ⟨S.k 95 12 (by decide), _, r_gStone S W D (by omega), fun h => absurd h yes, fun _ => ⟨S.k 95 12 (by decide), _, by rw [G.1]; exact r_holds, fun _ => ⟨fun h => no 0 (by decide) (by omega) h, fun h => no 1 (by decide) (by omega) h, fun h => no 2 (by decide) (by omega) h, fun _ => ⟨S.k 95 12 (by decide), 103, Q.p 95 21 103 (by decide), S.k 103 13 (by decide), i1, S.k 95 12 (by decide), 104, Q.p 95 22 104 (by decide), S.k 104 13 (by decide), j1, pq_eq (qZ q s) (qP q s) (fun _ => ⟨S.k 95 12 (by decide), 103, Q.p 95 21 103 (by decide), S.k 103 13 (by decide), i1, S.k 103 13 (by decide), i1, rfl, ?_⟩) (fun h => absurd hz (by omega)) (by rw [i2]; exact a1) (by rw [i2]; exact a2)⟩, fun _ _ _ h => absurd (by rw [k3]; rfl) h⟩, fun h => absurd h z0⟩⟩), ⟨?_, G.2.chip ?_ ?_ ?_ ?_ ?_ ?_ ?_ ?_⟩, (KR.rf I).u 103 _ _ (by decide)⟩
                · rw [i2, a1, show nI (qZ q s) - 1 = nI (qZ q s - 1) from pk_sub (b := 1) (by omega)]
                · simp [zU, G.1, qChip]
                · exact zU_s _ _ _ _
                · intro j hj; simp [zU, hj]
                · funext j; simp [zU]
                · funext j; simp [zU]
                · funext j; simp [zU]
                · funext j; simp [zU]
                · funext j; simp [zU]
                · funext j; simp [zU]
              · rw [if_neg hz]
                exact ⟨I, eX12_does (wX12_does_0 ⟨S.k 95 12 (by decide), _, r_gStone S W D (by omega), fun h => absurd h yes, fun _ => ⟨S.k 95 12 (by decide), _, by rw [G.1]; exact r_holds, fun _ => ⟨fun h => no 0 (by decide) (by omega) h, fun h => no 1 (by decide) (by omega) h, fun h => no 2 (by decide) (by omega) h, fun _ => ⟨S.k 95 12 (by decide), 103, Q.p 95 21 103 (by decide), S.k 103 13 (by decide), i1, S.k 95 12 (by decide), 104, Q.p 95 22 104 (by decide), S.k 104 13 (by decide), j1, pq_eq (qZ q s) (qP q s) (fun h => absurd (by omega) h) (fun _ => ⟨rfl, rfl⟩) (by rw [i2]; exact a1) (by rw [i2]; exact a2)⟩, fun _ _ _ h => absurd (by rw [k3]; rfl) h⟩, fun h => absurd h z0⟩⟩), G, KR.rf I⟩
            · rw [if_neg k3]
              refine ⟨zU I 95 17 (qS q ||| (1 : Int32) <<< (nI s &&& 31)), eX12_does (wX12_does_0 ⟨S.k 95 12 (by decide), _, r_gStone S W D (by omega), fun h => absurd h yes, fun _ => ⟨S.k 95 12 (by decide), _, by rw [G.1]; exact r_holds, fun _ => ⟨fun h => no 0 (by decide) (by omega) h, fun h => no 1 (by decide) (by omega) h, fun h => no 2 (by decide) (by omega) h, fun h => no 3 (by decide) (by omega) h, fun _ _ _ _ => ⟨S.k 95 12 (by decide), S.k 95 12 (by decide), rfl, by rw [G.1]⟩⟩, fun h => absurd h z0⟩⟩), ⟨zU_s _ _ _ _, G.2.same ?_ ?_ ?_ ?_ ?_ ?_ ?_⟩, (KR.rf I).u5 _⟩
              · funext j; simp [zU]
              · funext j; simp [zU]
              · funext j; simp [zU]
              · funext j; simp [zU]
              · funext j; simp [zU]
              · funext j; simp [zU]
              · funext j; simp [zU]
  · rw [if_neg (fun h => h1 h.1)]
    exact ⟨I, eX12_does (wX12_does_0 ⟨S.k 95 12 (by decide), _, r_gStone S W D (by omega), fun _ => ⟨rfl, rfl⟩, fun h => absurd (by rw [decide_eq_false h1]; rfl) h⟩), G, KR.rf I⟩
end REFGR
