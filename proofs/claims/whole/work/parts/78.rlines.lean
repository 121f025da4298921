/-! ===== the reference reads lines of centuries, lines, logs ===== -/
def DR1 (I : Nat → Nat → Int32) (y : PS) : Prop := I 98 0 = nI (yC y).1 ∧ ∀ k, k < (yC y).1 → I 98 (1 + 3 * k) = nI ((yC y).2.1 k) ∧ I 98 (2 + 3 * k) = nI ((yC y).2.2.1 k) ∧ I 98 (3 + 3 * k) = (yC y).2.2.2 k
def DR2 (I : Nat → Nat → Int32) (y : PS) : Prop := I 98 0 = nI (yL y).1 ∧ ∀ k, k < (yL y).1 → I 98 (1 + 13 * k) = nI ((yL y).2.1 k) ∧ ∀ i, i < (yL y).2.1 k → I 98 (2 + 13 * k + i) = nI ((yL y).2.2 k i)
def DR3 (I : Nat → Nat → Int32) (y : PS) : Prop := I 98 0 = nI (yG y).1 ∧ ∀ k, k < (yG y).1 → I 98 (1 + 2 * k) = nI ((yG y).2.1 k) ∧ I 98 (2 + 2 * k) = nI ((yG y).2.2 k)
theorem DR1.k {I J : Nat → Nat → Int32} {y : PS} (h : DR1 I y) (h8 : J 98 = I 98) : DR1 J y := by unfold DR1; rw [h8]; exact h
theorem DR2.k {I J : Nat → Nat → Int32} {y : PS} (h : DR2 I y) (h8 : J 98 = I 98) : DR2 J y := by unfold DR2; rw [h8]; exact h
theorem DR3.k {I J : Nat → Nat → Int32} {y : PS} (h : DR3 I y) (h8 : J 98 = I 98) : DR3 J y := by unfold DR3; rw [h8]; exact h
section RLINES
variable {g : zG} {I : Nat → Nat → Int32} {P : Nat → Nat → Option Nat} {T : Tp} {F : FS} {y : PS} {p : Nat}
/-- a line's first word, and whether there is room -/
theorem r_roomK {so c lim : Nat} (S : Sg g) (Q : Sp P) (h : PSt T I (.inl (p, F))) (hk0 : sK T p ≠ 0) (hso : so < 4) : ∃ I2 K, Cl mX12_wordIn [.ref 95, .int (nI (kLo so)), .int (nI (kHi so))] (g, I, P) (some (.int (nI (kS T so p)))) (g, I2, P) ∧ I2 98 = I 98 ∧ ((kS T so p = 0 ∧ I2 95 8 = 1 ∧ K = I2) ∨ (kS T so p ≠ 0 ∧ I2 95 8 = 0 ∧ (c < lim → K = I2) ∧ (¬ c < lim → Cl mX12_also [.ref 95, .int 3, .int (nI (sS T p))] (g, I2, P) none (g, K, P)))) ∧ KL I K ∧ PSt T K (if kS T so p = 0 then .inr (sS T p) else .inl (q1 T p, nt F (decide (c < lim)) 3 (sS T p))) := by
  obtain ⟨C, hp, h8, D, f5, f6, hF⟩ := PSt_l h
  have gg := sK_g hp hk0
  have bE := sE_b hp
  have b1 : q1 T p ≤ T.1 := bE.2.1
  have bs1 := sS_b b1
  have hlt : sS T p < sS T (q1 T p) := by have : sS T p < sE T p := bE.2.2.2 gg.2.1; have : q1 T p = sE T p := rfl; omega
  obtain ⟨I2, z2, k2, -, -, L2⟩ := r_wordIn (g := g) (so := so) S Q h hso
  have x98 : I2 98 = I 98 := k2.1 98 (by decide) (by decide) (by decide)
  by_cases e0 : kS T so p = 0
  · rw [if_pos e0] at L2 ⊢
    exact ⟨I2, I2, z2, x98, Or.inl ⟨e0, L2.2.1, rfl⟩, k2, L2⟩
  · rw [if_neg e0] at L2 ⊢
    by_cases hc : c < lim
    · rw [decide_eq_true hc, nt_t]
      exact ⟨I2, I2, z2, x98, Or.inr ⟨e0, (PSt_l L2).2.2.1, fun _ => rfl, fun e => absurd hc e⟩, k2, L2⟩
    · rw [decide_eq_false hc]
      obtain ⟨K, z1, k1, e95, L⟩ := r_alsoM (g := g) (k := 3) (q := sS T p) S Q L2 (fun r F' e => by cases e; exact ⟨hF, hlt⟩)
      exact ⟨I2, K, z2, x98, Or.inr ⟨e0, (PSt_l L2).2.2.1, fun e => absurd e hc, fun _ => z1⟩, k2.tr k1, L⟩
theorem lF_0 : lF T 0 p = some (sS T p) := by unfold lF; rw [if_pos rfl]
theorem mEnd_0 : mEnd T 0 p y F = .inr (sS T p) := chn_s lF_0
theorem v0 (S : Sg g) : vp_in 0 (g.2.2 98) := by rw [S.l 98 121 (by decide)]; exact vp_in_nI (n := 0) (by decide) (by decide)
theorem v98 {k : Nat} (S : Sg g) (hk : k < 121) : vp_in (nI k) (g.2.2 98) := by rw [S.l 98 121 (by decide)]; exact vp_in_nI hk (by decide)
theorem r_cent78 {c : Nat} {m : Md} {x2 x3 x4 : Int32} (S : Sg g) (Q : Sp P) (h : PSt T I m) (hc : I 98 0 = nI c) (hc40 : c ≤ 40) : ∃ J, Zt none mX12_centuryLine 0 0 78 [(0, .ref 95), (2, .int x2), (3, .int x3), (4, .int x4)] [] (g, I, P) none (g, J, P) ∧ KT I J ∧ PSt T J (mTok T 3 fId m) ∧ (c = 40 → J 98 = I 98) ∧ (c < 40 → ∀ j, J 98 j = if j = 0 then nI (c + 1) else if j = 1 + 3 * c then x2 else if j = 2 + 3 * c then x3 else if j = 3 + 3 * c then x4 else I 98 j) := by
  by_cases h40 : c < 40
  · obtain ⟨K, hK⟩ : ∃ K, K = zU (zU (zU (zU I 98 (1 + 3 * c) x2) 98 (1 + 3 * c + 1) x3) 98 (1 + 3 * c + 2) x4) 98 0 (nI (c + 1)) := ⟨_, rfl⟩
    have LK : PSt T K m := by rw [hK]; exact PSt_u (PSt_u (PSt_u (PSt_u h _ _) _ _) _ _) _ _
    obtain ⟨J, z, k, L⟩ := r_endsLine S Q LK
    have kt : KT I J := KT.tr (by rw [hK]; exact (((KT.u _ _).tr (KT.u _ _)).tr (KT.u _ _)).tr (KT.u _ _)) k.t
    have e98 : J 98 = K 98 := k.1 98 (by decide) (by decide) (by decide)
    refine ⟨J, wX12_centuryLine_78 ⟨S.k 95 12 (by decide), 98, Q.p 95 10 98 (by decide), S.k 98 13 (by decide), v0 S, fun e => ?_, fun _ => ⟨S.k 95 12 (by decide), 98, Q.p 95 10 98 (by decide), S.k 98 13 (by decide), v0 S, fun y hy => ?_⟩⟩, kt, L, fun e => by omega, fun _ j => ?_⟩
    · rw [c0, hc] at e
      exact absurd e (nI_ge (b := 40) h40 (by decide))
    · rw [c0, hc, n1, show (3 : Int32) = nI 3 from rfl, pk_mul, nI_add] at hy
      subst hy
      refine ⟨S.k 95 12 (by decide), 98, Q.p 95 10 98 (by decide), S.k 98 13 (by decide), v98 S (by omega), S.k 95 12 (by decide), 98, Q.p 95 10 98 (by decide), S.k 98 13 (by decide), by rw [nI_1]; exact v98 S (by omega), S.k 95 12 (by decide), 98, Q.p 95 10 98 (by decide), S.k 98 13 (by decide), by rw [n2, nI_add]; exact v98 S (by omega), S.k 95 12 (by decide), 98, Q.p 95 10 98 (by decide), S.k 98 13 (by decide), v0 S, S.k 98 13 (by decide), v0 S, S.k 95 12 (by decide), J, ?_, rfl, rfl⟩
      rw [nI_1, n2, nI_add, nI_clamp (by omega), nI_clamp (by omega), nI_clamp (by omega), c0, zU_k (k := 1 + 3 * c + 2) (j := 0) _ _ (by omega), zU_k (k := 1 + 3 * c + 1) (j := 0) _ _ (by omega), zU_k (k := 1 + 3 * c) (j := 0) _ _ (by omega), hc, nI_1, ← hK]
      exact z
    · rw [e98, hK]
      by_cases e0 : j = 0
      · rw [if_pos e0, e0, zU_s]
      · rw [if_neg e0, zU_k _ _ e0]
        by_cases e3 : j = 3 + 3 * c
        · rw [if_neg (by omega), if_neg (by omega), if_pos e3, show j = 1 + 3 * c + 2 by omega, zU_s]
        · rw [zU_k _ _ (by omega)]
          by_cases e2 : j = 2 + 3 * c
          · rw [if_neg (by omega), if_pos e2, show j = 1 + 3 * c + 1 by omega, zU_s]
          · rw [zU_k _ _ (by omega)]
            by_cases e1 : j = 1 + 3 * c
            · rw [if_pos e1, e1, zU_s]
            · rw [if_neg e1, if_neg e2, if_neg e3, zU_k _ _ e1]
  · obtain ⟨J, z, k, L⟩ := r_endsLine S Q h
    refine ⟨J, wX12_centuryLine_78 ⟨S.k 95 12 (by decide), 98, Q.p 95 10 98 (by decide), S.k 98 13 (by decide), v0 S, fun _ => ⟨S.k 95 12 (by decide), J, z, rfl, rfl⟩, fun e => ?_⟩, k.t, L, fun _ => k.1 98 (by decide) (by decide) (by decide), fun e => absurd e h40⟩
    rw [c0, hc] at e
    exact absurd (nI_le (a := 40) (by omega) (by omega)) e
theorem r_centuryLine {c : Nat} (S : Sg g) (Q : Sp P) (h : PSt T I (.inl (p, F))) (hk0 : sK T p ≠ 0) (hc : I 98 0 = nI c) (hc40 : c ≤ 40) (Rd : F.1 = 0 → DR1 I y ∧ PW y) : ∃ J, Cl mX12_centuryLine [.ref 95] (g, I, P) none (g, J, P) ∧ KT I J ∧ PSt T J (mEnd T (kS T 1 p) p y F) ∧ (∃ c', J 98 0 = nI c' ∧ c' ≤ 40) ∧ (lF T (kS T 1 p) p = none → (tF T (kS T 1 p) p y F).1 = 0 → DR1 J (tY T (kS T 1 p) p y)) := by
  obtain ⟨C, hp, h8, D, f5, f6, hF⟩ := PSt_l h
  have b1 : q1 T p ≤ T.1 := (sE_b hp).2.1
  have b2 : q2 T p ≤ T.1 := (sE_b b1).2.1
  obtain ⟨I2, K, z2, x98, hR, kK, LK⟩ := r_roomK (g := g) (so := 1) (c := c) (lim := 40) S Q h hk0 (by decide)
  have hk : kS T 1 p = 0 ∨ (5 ≤ kS T 1 p ∧ kS T 1 p ≤ 9) := by
    rcases kS_le (T := T) (so := 1) (p := p) (by decide) with e | ⟨-, e1, e2, e3⟩
    · exact Or.inl e
    · have e2 : 5 ≤ sW T p := e2
      have e3 : sW T p ≤ 9 := e3
      omega
  generalize hkk : kS T 1 p = k at *
  have K98 : K 98 = I 98 := kK.1 98 (by decide) (by decide) (by decide)
  have head : ∀ J, Zt none mX12_centuryLine 0 0 39 [(0, .ref 95), (2, .int (nI k - 5))] [] (g, K, P) none (g, J, P) → Cl mX12_centuryLine [.ref 95] (g, I, P) none (g, J, P) := by
    intro J z
    refine eX12_centuryLine (wX12_centuryLine_0 ⟨S.k 95 12 (by decide), S.k 95 12 (by decide), _, _, z2, S.k 95 12 (by decide), fun e => ?_, fun e => ⟨S.k 95 12 (by decide), 98, Q.p 95 10 98 (by decide), S.k 98 13 (by decide), v0 S, fun e2 => ?_, fun e2 => ?_⟩⟩)
    · rcases hR with ⟨-, -, r3⟩ | ⟨-, r2, -⟩
      · rw [← r3]; exact z
      · exact absurd r2 e
    · rcases hR with ⟨-, r2, -⟩ | ⟨-, -, r3, -⟩
      · rw [r2] at e; exact absurd e (by decide)
      · rw [c0, x98, hc, show (40 : Int32) = nI 40 from rfl, nI_ltI (by omega) (by decide)] at e2
        rw [← r3 e2]; exact z
    · rcases hR with ⟨-, r2, -⟩ | ⟨-, -, -, r4⟩
      · rw [r2] at e; exact absurd e (by decide)
      · rw [c0, x98, hc, show (40 : Int32) = nI 40 from rfl, nI_ltI (by omega) (by decide)] at e2
        exact ⟨S.k 95 12 (by decide), K, by rw [D.2.1]; exact r4 e2, z⟩
  obtain ⟨v, J1, z1, k1, -, -, L1, -, v3, hv⟩ := r_numbered (g := g) (lo := 0) (hi := 3) S Q LK (by decide) (by decide)
  have J198 : J1 98 = I 98 := by rw [k1.1 98 (by decide) (by decide) (by decide), K98]
  have ge2 : 2 ≤ nI k - 5 ↔ 7 ≤ k := by
    rw [Int32.le_iff_toInt_le, show (5 : Int32) = nI 5 from rfl, pk_sub_toInt (by omega) (by decide)]
    show (2 : Int) ≤ _ ↔ _
    omega
  -- the letter
  have lett : ∃ x4 J2 m2, KL J1 J2 ∧ PSt T J2 m2 ∧ (7 ≤ k → x4 = -1 ∧ m2 = mTok T 2 (fNum T 0 3) (if k = 0 then .inr (sS T p) else .inl (q1 T p, nt F (decide (c < 40)) 3 (sS T p)))) ∧ (¬ 7 ≤ k → m2 = mTok T 1 (fRow T 1) (mTok T 2 (fNum T 0 3) (if k = 0 then .inr (sS T p) else .inl (q1 T p, nt F (decide (c < 40)) 3 (sS T p)))) ∧ (k ≠ 0 → sK T (q1 T p) = 2 → sK T (q2 T p) = 1 → rowOk T (q2 T p) 1 = true → x4 = nI (lts T (q2 T p) 0))) ∧ ∀ J, Zt none mX12_centuryLine 0 0 78 [(0, .ref 95), (2, .int (nI k - 5)), (3, .int (nI v)), (4, .int x4)] [] (g, J2, P) none (g, J, P) → Zt none mX12_centuryLine 0 0 39 [(0, .ref 95), (2, .int (nI k - 5))] [] (g, K, P) none (g, J, P) := by
    by_cases h7 : 7 ≤ k
    · exact ⟨-1, J1, _, KL.rf J1, L1, fun _ => ⟨rfl, rfl⟩, fun e => absurd h7 e, fun J z => wX12_centuryLine_39 ⟨S.k 95 12 (by decide), _, _, z1, fun _ => z, fun e => absurd (ge2.mpr h7) e⟩⟩
    · obtain ⟨mm, J2, z3, k3, L3, e12, hmm, hrow⟩ := r_rowTold (g := g) (most := 1) S Q L1 (by decide)
      have v99 : vp_in 0 (g.2.2 99) := by rw [S.l 99 12 (by decide)]; exact vp_in_nI (n := 0) (by decide) (by decide)
      by_cases hm0 : mm = 0
      · refine ⟨0, J2, _, k3, L3, fun e => absurd e h7, fun _ => ⟨rfl, fun e0 s1 s2 s3 => ?_⟩, fun J z => wX12_centuryLine_39 ⟨S.k 95 12 (by decide), _, _, z1, fun e => absurd (ge2.mp e) h7, fun _ => ⟨S.k 95 12 (by decide), _, z3, S.k 95 12 (by decide), fun _ => z, fun e => absurd (by rw [e12, hm0]; exact Int32.le_refl _) e⟩⟩⟩
        have em : mTok T 2 (fNum T 0 3) (if k = 0 then .inr (sS T p) else .inl (q1 T p, nt F (decide (c < 40)) 3 (sS T p))) = .inl (q2 T p, fNum T 0 3 (q1 T p) (nt F (decide (c < 40)) 3 (sS T p))) := by rw [if_neg e0]; exact mTok_t s1
        have := (hrow (q2 T p) _ em s2 s3).1
        have := (sK_g (p := q2 T p) b2 (by omega)).2.2
        omega
      · refine ⟨J2 99 0, J2, _, k3, L3, fun e => absurd e h7, fun _ => ⟨rfl, fun e0 s1 s2 s3 => ?_⟩, fun J z => wX12_centuryLine_39 ⟨S.k 95 12 (by decide), _, _, z1, fun e => absurd (ge2.mp e) h7, fun _ => ⟨S.k 95 12 (by decide), _, z3, S.k 95 12 (by decide), fun e => ?_, fun _ => ⟨S.k 95 12 (by decide), 99, Q.p 95 11 99 (by decide), S.k 99 13 (by decide), v99, fun y hy => ?_⟩⟩⟩⟩
        · have em : mTok T 2 (fNum T 0 3) (if k = 0 then .inr (sS T p) else .inl (q1 T p, nt F (decide (c < 40)) 3 (sS T p))) = .inl (q2 T p, fNum T 0 3 (q1 T p) (nt F (decide (c < 40)) 3 (sS T p))) := by rw [if_neg e0]; exact mTok_t s1
          obtain ⟨r1, r2⟩ := hrow (q2 T p) _ em s2 s3
          exact r2 0 (by omega)
        · rw [e12, n0, nI_leI (by omega) (by decide)] at e; omega
        · rw [hy, c0]; exact z
  obtain ⟨x4, J2, m2, kJ2, L2, m7, m6, go⟩ := lett
  have J298 : J2 98 = I 98 := by rw [kJ2.1 98 (by decide) (by decide) (by decide), J198]
  obtain ⟨J, zJ, kJ, LJ, j40, jl⟩ := r_cent78 (g := g) (x2 := nI k - 5) (x3 := nI v) (x4 := x4) S Q L2 (by rw [J298]; exact hc) hc40
  have eT : ∀ c', nt (nt F (decide (c < 40)) 3 (sS T p)) c' 2 (sS T (q1 T p)) = nt (nt F (decide ((yC y).1 < 40)) 3 (sS T p)) c' 2 (sS T (q1 T p)) := by
    intro c'
    by_cases h0 : F.1 = 0
    · have e1 := (Rd h0).1.1
      have e2 := (Rd h0).2.2.2.2.2.1.1
      rw [hc, nI_eq (by omega) (by omega)] at e1
      rw [e1]
    · simp only [nt_n h0]
  refine ⟨J, head J (go J zJ), ((kK.tr k1).tr kJ2).t.tr kJ, ?_, ?_, fun hl hF0 => ?_⟩
  · rcases hk with e | ⟨k5, k9⟩
    · subst e
      have := (m6 (by decide)).1
      rw [this] at LJ
      rw [mEnd_0]
      exact LJ
    · have n0' : k ≠ 0 := by omega
      by_cases h7 : 7 ≤ k
      · have em := (m7 h7).2
        rw [if_neg n0'] at em
        rw [em] at LJ
        have kfe : kf k = 2 := by unfold kf; rw [if_neg (by omega)]
        have kte : ktw k = false := by unfold ktw; exact decide_eq_false (by omega)
        have e2 := ch1 (T := T) (p := p) (f1 := fNum T 0 3) (F1 := nt F (decide (c < 40)) 3 (sS T p)) n0' kte
        rw [kfe] at e2
        rw [e2] at LJ
        have eF : fNum T 0 3 (q1 T p) (nt F (decide (c < 40)) 3 (sS T p)) = tF T k p y F := by
          unfold fNum tF
          rw [dle0, if_neg (by omega), if_neg (by omega), if_neg (by omega), if_neg (by omega), if_neg (by omega), if_pos k9]
          exact eT _
        unfold mEnd
        rw [← eF]; exact LJ
      · have em := (m6 h7).1
        rw [if_neg n0'] at em
        rw [em] at LJ
        have kfe : kf k = 2 := by unfold kf; rw [if_neg (by omega)]
        have kse : ks k = 1 := by unfold ks; rw [if_pos (by omega)]
        have kte : ktw k = true := by unfold ktw; exact decide_eq_true (by omega)
        have e2 := ch2 (T := T) (p := p) (f1 := fNum T 0 3) (f2 := fRow T 1) (F1 := nt F (decide (c < 40)) 3 (sS T p)) n0' kte
        rw [kfe, kse] at e2
        rw [e2] at LJ
        have eF : fRow T 1 (q2 T p) (fNum T 0 3 (q1 T p) (nt F (decide (c < 40)) 3 (sS T p))) = tF T k p y F := by
          unfold fNum fRow tF
          rw [dle0, if_neg (by omega), if_neg (by omega), if_neg (by omega), if_neg (by omega), if_pos (by omega), eT]
        unfold mEnd
        rw [← eF]; exact LJ
  · by_cases h40 : c < 40
    · exact ⟨c + 1, by rw [jl h40 0, if_pos rfl], by omega⟩
    · exact ⟨c, by rw [j40 (by omega), J298]; exact hc, hc40⟩
  · rcases hk with e | ⟨k5, k9⟩
    · subst e; rw [lF_0] at hl; cases hl
    · have n0' : k ≠ 0 := by omega
      obtain ⟨-, s1, s2, -⟩ := lF_n hl
      have s1 : sK T (q1 T p) = 2 := by rw [s1]; unfold kf; rw [if_neg (by omega)]
      have t0 : F.1 = 0 ∧ (yC y).1 < 40 ∧ sN T (q1 T p) ≤ 3 ∧ (k ≤ 6 → rowOk T (q2 T p) 1 = true) := by
        unfold tF at hF0
        rw [if_neg (by omega), if_neg (by omega), if_neg (by omega), if_neg (by omega)] at hF0
        by_cases hk6 : k ≤ 6
        · rw [if_pos hk6] at hF0
          obtain ⟨t1, t2, -⟩ := nt_0 (by decide) hF0
          obtain ⟨t3, t4, -⟩ := nt_0 (by decide) t1
          obtain ⟨t5, t6, -⟩ := nt_0 (by decide) t3
          rw [decide_eq_true_eq] at t4 t6
          exact ⟨t5, t6, t4, fun _ => t2⟩
        · rw [if_neg hk6, if_pos k9] at hF0
          obtain ⟨t1, t2, -⟩ := nt_0 (by decide) hF0
          obtain ⟨t3, t4, -⟩ := nt_0 (by decide) t1
          rw [decide_eq_true_eq] at t4 t2
          exact ⟨t3, t4, t2, fun e => absurd e hk6⟩
      obtain ⟨t1, t2, t3, t4⟩ := t0
      obtain ⟨⟨d0, dd⟩, Y⟩ := Rd t1
      have ecn : c = (yC y).1 := by rw [hc, nI_eq (by omega) (by omega)] at d0; exact d0
      subst ecn
      have E := jl t2
      have em : (if k = 0 then .inr (sS T p) else .inl (q1 T p, nt F (decide ((yC y).1 < 40)) 3 (sS T p)) : Md) = .inl (q1 T p, nt F (decide ((yC y).1 < 40)) 3 (sS T p)) := by rw [if_neg n0']
      have ev := hv (q1 T p) _ em s1 (Nat.zero_le _) t3
      have ex : x4 = if k ≤ 6 then nI (lts T (q2 T p) 0) else -1 := by
        by_cases hk6 : k ≤ 6
        · rw [if_pos hk6]
          have kte : ktw k = true := by unfold ktw; exact decide_eq_true (by omega)
          exact (m6 (by omega)).2 n0' s1 (by rw [(s2 kte).1]; unfold ks; rw [if_pos (by omega)]) (t4 hk6)
        · rw [if_neg hk6]; exact (m7 (by omega)).1
      have eY : tY T k p y = (yH y, yF y, yDeed T k p (yC y), yL y, yG y) := by
        unfold tY
        rw [if_neg (by omega), if_neg (by omega), if_neg (by omega), if_neg (by omega), if_pos k9]
      rw [eY]
      refine ⟨by rw [E, if_pos rfl]; rfl, fun i hi => ?_⟩
      have hi : i < (yC y).1 + 1 := hi
      show J 98 (1 + 3 * i) = nI (upf (yC y).2.1 (yC y).1 (k - 5) i) ∧ J 98 (2 + 3 * i) = nI (upf (yC y).2.2.1 (yC y).1 (sN T (q1 T p)) i) ∧ J 98 (3 + 3 * i) = upf (yC y).2.2.2 (yC y).1 (if k ≤ 6 then nI (lts T (q2 T p) 0) else -1) i
      by_cases e : i = (yC y).1
      · rw [e, upf_s, upf_s, upf_s, E, if_neg (by omega), if_pos (by omega), E, if_neg (by omega), if_neg (by omega), if_pos (by omega), E, if_neg (by omega), if_neg (by omega), if_neg (by omega), if_pos (by omega), ev, ex, show (5 : Int32) = nI 5 from rfl, pk_sub k5]
        exact ⟨rfl, rfl, rfl⟩
      · rw [upf_n _ _ e, upf_n _ _ e, upf_n _ _ e, E, if_neg (by omega), if_neg (by omega), if_neg (by omega), if_neg (by omega), E, if_neg (by omega), if_neg (by omega), if_neg (by omega), if_neg (by omega), E, if_neg (by omega), if_neg (by omega), if_neg (by omega), if_neg (by omega), J298]
        exact dd i (by omega)
/-- letters come into a line of what is read; then the line ends -/
theorem r_lineLoop {b mm c : Nat} {m : Md} (S : Sg g) (Q : Sp P) (hb : 1 ≤ b) (hbm : b + 1 + mm ≤ 121) (hm : mm ≤ 12) : ∀ n i (K : Nat → Nat → Int32), i + n = mm → K 95 12 = nI mm → K 98 0 = nI c → PSt T K m → ∃ J, Zt none mX12_linesLine 0 0 79 [(0, .ref 95), (2, .int (nI b)), (3, .int (nI i))] [] (g, K, P) none (g, J, P) ∧ KT K J ∧ PSt T J (mTok T 3 fId m) ∧ ∀ j, J 98 j = if j = 0 then nI (c + 1) else if b + 1 + i ≤ j ∧ j < b + 1 + mm then K 99 (j - (b + 1)) else K 98 j := by
  intro n
  induction n with
  | zero =>
    intro i K hi h12 h0 h
    have hi : i = mm := hi
    have LK : PSt T (zU K 98 0 (nI (c + 1))) m := PSt_u h _ _
    obtain ⟨J, z, k, L⟩ := r_endsLine S Q LK
    have e98 : J 98 = (zU K 98 0 (nI (c + 1))) 98 := k.1 98 (by decide) (by decide) (by decide)
    refine ⟨J, wX12_linesLine_79 ⟨S.k 95 12 (by decide), fun _ => ⟨S.k 95 12 (by decide), 98, Q.p 95 10 98 (by decide), S.k 98 13 (by decide), v0 S, S.k 98 13 (by decide), v0 S, S.k 95 12 (by decide), J, by rw [c0, h0, nI_1]; exact z, rfl, rfl⟩, fun e => absurd (by rw [h12, hi]; exact Int32.le_refl _) e⟩, (KT.u _ _).tr k.t, L, fun j => ?_⟩
    rw [e98]
    by_cases e : j = 0
    · subst e; rw [zU_s, if_pos rfl]
    · rw [zU_k _ _ e, if_neg e, if_neg (by omega)]
  | succ n ih =>
    intro i K hi h12 h0 h
    have e99 : vp_in (nI i) (g.2.2 99) := by rw [S.l 99 12 (by decide)]; exact vp_in_nI (by omega) (by decide)
    have eb : nI b + 1 + nI i = nI (b + 1 + i) := by rw [n1, nI_add, nI_add]
    have e98 : vp_in (nI b + 1 + nI i) (g.2.2 98) := by rw [eb]; exact v98 S (by omega)
    obtain ⟨J, z, kt, L, a2⟩ := ih (i + 1) (zU K 98 (b + 1 + i) (K 99 i)) (by omega) (by rw [zU_a _ _ (by decide)]; exact h12) (by rw [zU_k _ _ (by omega)]; exact h0) (PSt_u h _ _)
    refine ⟨J, wX12_linesLine_79 ⟨S.k 95 12 (by decide), fun e => ?_, fun _ => ⟨S.k 95 12 (by decide), 98, Q.p 95 10 98 (by decide), S.k 95 12 (by decide), 99, Q.p 95 11 99 (by decide), S.k 99 13 (by decide), e99, S.k 98 13 (by decide), e98, ?_⟩⟩, (KT.u _ _).tr kt, L, fun j => ?_⟩
    · rw [h12] at e; exact absurd e (nI_ge (by omega) (by omega))
    · rw [eb, nI_clamp (by omega), nI_clamp (by omega), nI_1]; exact z
    · rw [a2 j, zU_a (f := K) (a := 98) (k := b + 1 + i) (b := 99) (j := j - (b + 1)) _ (by decide)]
      by_cases e : j = 0
      · rw [if_pos e, if_pos e]
      · rw [if_neg e, if_neg e]
        by_cases e2 : b + 1 + (i + 1) ≤ j ∧ j < b + 1 + mm
        · rw [if_pos e2, if_pos (by omega)]
        · rw [if_neg e2]
          by_cases e3 : j = b + 1 + i
          · rw [e3, zU_s, if_pos (by omega), show b + 1 + i - (b + 1) = i by omega]
          · rw [zU_k _ _ e3, if_neg (by omega)]
theorem r_linesLine {c : Nat} (S : Sg g) (Q : Sp P) (h : PSt T I (.inl (p, F))) (hk0 : sK T p ≠ 0) (hc : I 98 0 = nI c) (hc6 : c ≤ 6) (Rd : F.1 = 0 → DR2 I y ∧ PW y) : ∃ J, Cl mX12_linesLine [.ref 95] (g, I, P) none (g, J, P) ∧ KT I J ∧ PSt T J (mEnd T (kS T 2 p) p y F) ∧ (∃ c', J 98 0 = nI c' ∧ c' ≤ 6) ∧ (lF T (kS T 2 p) p = none → (tF T (kS T 2 p) p y F).1 = 0 → DR2 J (tY T (kS T 2 p) p y)) := by
  obtain ⟨C, hp, h8, D, f5, f6, hF⟩ := PSt_l h
  have b1 : q1 T p ≤ T.1 := (sE_b hp).2.1
  obtain ⟨I2, K, z2, x98, hR, kK, LK⟩ := r_roomK (g := g) (so := 2) (c := c) (lim := 6) S Q h hk0 (by decide)
  have hk : kS T 2 p = 0 ∨ kS T 2 p = 10 := by
    rcases kS_le (T := T) (so := 2) (p := p) (by decide) with e | ⟨-, e1, e2, e3⟩
    · exact Or.inl e
    · have e2 : 10 ≤ sW T p := e2
      have e3 : sW T p ≤ 10 := e3
      omega
  generalize hkk : kS T 2 p = k at *
  have K98 : K 98 = I 98 := kK.1 98 (by decide) (by decide) (by decide)
  have head : ∀ J, Zt none mX12_linesLine 0 0 38 [(0, .ref 95)] [] (g, K, P) none (g, J, P) → Cl mX12_linesLine [.ref 95] (g, I, P) none (g, J, P) := by
    intro J z
    refine eX12_linesLine (wX12_linesLine_0 ⟨S.k 95 12 (by decide), S.k 95 12 (by decide), _, _, z2, S.k 95 12 (by decide), fun e => ?_, fun e => ⟨S.k 95 12 (by decide), 98, Q.p 95 10 98 (by decide), S.k 98 13 (by decide), v0 S, fun e2 => ?_, fun e2 => ?_⟩⟩)
    · rcases hR with ⟨-, -, r3⟩ | ⟨-, r2, -⟩
      · rw [← r3]; exact z
      · exact absurd r2 e
    · rcases hR with ⟨-, r2, -⟩ | ⟨-, -, r3, -⟩
      · rw [r2] at e; exact absurd e (by decide)
      · rw [c0, x98, hc, n6, nI_ltI (by omega) (by decide)] at e2
        rw [← r3 e2]; exact z
    · rcases hR with ⟨-, r2, -⟩ | ⟨-, -, -, r4⟩
      · rw [r2] at e; exact absurd e (by decide)
      · rw [c0, x98, hc, n6, nI_ltI (by omega) (by decide)] at e2
        exact ⟨S.k 95 12 (by decide), K, by rw [D.2.1]; exact r4 e2, z⟩
  obtain ⟨mm, J1, z1, k1, L1, e12, hmm, hrow⟩ := r_rowTold (g := g) (most := 12) S Q LK (by decide)
  have J198 : J1 98 = I 98 := by rw [k1.1 98 (by decide) (by decide) (by decide), K98]
  have tail : ∃ J, Zt none mX12_linesLine 0 0 38 [(0, .ref 95)] [] (g, K, P) none (g, J, P) ∧ KT J1 J ∧ PSt T J (mTok T 3 fId (mTok T 1 (fRow T 12) (if k = 0 then .inr (sS T p) else .inl (q1 T p, nt F (decide (c < 6)) 3 (sS T p))))) ∧ (c = 6 → J 98 = I 98) ∧ (c < 6 → ∀ j, J 98 j = if j = 0 then nI (c + 1) else if 2 + 13 * c ≤ j ∧ j < 2 + 13 * c + mm then J1 99 (j - (2 + 13 * c)) else if j = 1 + 13 * c then nI mm else I 98 j) := by
    by_cases h6 : c < 6
    · have ey : (1 : Int32) + 13 * J1 98 (0 : Int32).toNatClampNeg = nI (1 + 13 * c) := by rw [c0, J198, hc, n1, show (13 : Int32) = nI 13 from rfl, pk_mul, nI_add]
      obtain ⟨J, zJ, kJ, LJ, a2⟩ := r_lineLoop (g := g) (b := 1 + 13 * c) (mm := mm) (c := c) S Q (by omega) (by omega) hmm mm 0 (zU J1 98 (1 + 13 * c) (nI mm)) (by omega) (by rw [zU_a _ _ (by decide)]; exact e12) (by rw [zU_k _ _ (by omega), J198]; exact hc) (PSt_u L1 _ _)
      refine ⟨J, wX12_linesLine_38 ⟨S.k 95 12 (by decide), _, z1, S.k 95 12 (by decide), 98, Q.p 95 10 98 (by decide), S.k 98 13 (by decide), v0 S, fun e => ?_, fun _ => ⟨S.k 95 12 (by decide), 98, Q.p 95 10 98 (by decide), S.k 98 13 (by decide), v0 S, fun y hy => ?_⟩⟩, (KT.u _ _).tr kJ, LJ, fun e => by omega, fun _ j => ?_⟩
      · rw [c0, J198, hc] at e
        exact absurd e (nI_ge (b := 6) h6 (by decide))
      · rw [ey] at hy
        subst hy
        refine ⟨S.k 95 12 (by decide), 98, Q.p 95 10 98 (by decide), S.k 95 12 (by decide), S.k 98 13 (by decide), v98 S (by omega), ?_⟩
        rw [nI_clamp (by omega), e12]; exact zJ
      · rw [a2 j, zU_a (f := J1) (a := 98) (k := 1 + 13 * c) (b := 99) _ (by decide)]
        by_cases e : j = 0
        · rw [if_pos e, if_pos e]
        · rw [if_neg e, if_neg e]
          by_cases e2 : 1 + 13 * c + 1 + 0 ≤ j ∧ j < 1 + 13 * c + 1 + mm
          · rw [if_pos e2, if_pos (by omega), show 1 + 13 * c + 1 = 2 + 13 * c by omega]
          · rw [if_neg e2, if_neg (by omega)]
            by_cases e3 : j = 1 + 13 * c
            · rw [if_pos e3, e3, zU_s]
            · rw [if_neg e3, zU_k _ _ e3, J198]
    · obtain ⟨J, z, kJ, LJ⟩ := r_endsLine S Q L1
      refine ⟨J, wX12_linesLine_38 ⟨S.k 95 12 (by decide), _, z1, S.k 95 12 (by decide), 98, Q.p 95 10 98 (by decide), S.k 98 13 (by decide), v0 S, fun _ => ⟨S.k 95 12 (by decide), J, z, rfl, rfl⟩, fun e => ?_⟩, kJ.t, LJ, fun _ => by rw [kJ.1 98 (by decide) (by decide) (by decide), J198], fun e => absurd e h6⟩
      rw [c0, J198, hc] at e
      exact absurd (nI_le (a := 6) (by omega) (by omega)) e
  obtain ⟨J, zJ, kJ, LJ, j6, jl⟩ := tail
  refine ⟨J, head J zJ, (kK.tr k1).t.tr kJ, ?_, ?_, fun hl hF0 => ?_⟩
  · rcases hk with e | e
    · subst e
      rw [mEnd_0]; exact LJ
    · subst e
      rw [if_neg (by decide), show mTok T 3 fId (mTok T 1 (fRow T 12) (.inl (q1 T p, nt F (decide (c < 6)) 3 (sS T p)))) = chn T 10 p (fRow T 12 (q1 T p) (nt F (decide (c < 6)) 3 (sS T p))) from ch1 (k := 10) (by decide) rfl] at LJ
      have eF : fRow T 12 (q1 T p) (nt F (decide (c < 6)) 3 (sS T p)) = tF T 10 p y F := by
        show _ = nt (nt F (decide ((yL y).1 < 6)) 3 (sS T p)) (rowOk T (q1 T p) 12) 2 (sS T (q1 T p))
        unfold fRow
        by_cases h0 : F.1 = 0
        · have e1 := (Rd h0).1.1
          have e2 := (Rd h0).2.2.2.2.2.2.1.1
          rw [hc, nI_eq (by omega) (by omega)] at e1
          rw [e1]
        · simp only [nt_n h0]
      unfold mEnd
      rw [← eF]; exact LJ
  · by_cases h6 : c < 6
    · exact ⟨c + 1, by rw [jl h6 0, if_pos rfl], by omega⟩
    · exact ⟨c, by rw [j6 (by omega)]; exact hc, hc6⟩
  · rcases hk with e | e
    · subst e; rw [lF_0] at hl; cases hl
    · subst e
      obtain ⟨-, s1, -, -⟩ := lF_n hl
      have s1 : sK T (q1 T p) = 1 := s1
      obtain ⟨t1, t2, -⟩ := nt_0 (by decide) hF0
      obtain ⟨t3, t4, -⟩ := nt_0 (by decide) t1
      rw [decide_eq_true_eq] at t4
      obtain ⟨⟨d0, dd⟩, Y⟩ := Rd t3
      have lw := Y.2.2.2.2.2.1
      have ecn : c = (yL y).1 := by rw [hc, nI_eq (by omega) (by have := lw.1; omega)] at d0; exact d0
      subst ecn
      have E := jl t4
      obtain ⟨r1, r2⟩ := hrow (q1 T p) _ (by rw [if_neg (by decide)]) s1 t2
      have hz := (rowOk_1 t2).1
      refine ⟨by rw [E, if_pos rfl]; rfl, fun i hi => ⟨?_, fun j hj => ?_⟩⟩
      · have hi : i < (yL y).1 + 1 := hi
        show J 98 (1 + 13 * i) = nI (upf (yL y).2.1 (yL y).1 (sZ T (q1 T p)) i)
        rw [E, if_neg (by omega), if_neg (by omega)]
        by_cases e : i = (yL y).1
        · rw [if_pos (by omega), e, upf_s, r1]
        · rw [if_neg (by omega), upf_n _ _ e]; exact (dd i (by omega)).1
      · have hi : i < (yL y).1 + 1 := hi
        have hj : j < upf (yL y).2.1 (yL y).1 (sZ T (q1 T p)) i := hj
        show J 98 (2 + 13 * i + j) = nI (upf (yL y).2.2 (yL y).1 (lts T (q1 T p)) i j)
        rw [E, if_neg (by omega)]
        by_cases e : i = (yL y).1
        · rw [e, upf_s] at hj
          rw [e, upf_s, if_pos (by omega), show 2 + 13 * (yL y).1 + j - (2 + 13 * (yL y).1) = j by omega]
          exact r2 j hj
        · rw [upf_n _ _ e] at hj
          have := (lw.2 i (by omega)).1.2
          rw [if_neg (by omega), if_neg (by omega), upf_n _ _ e]
          exact (dd i (by omega)).2 j hj
theorem r_logLine {c : Nat} (S : Sg g) (Q : Sp P) (h : PSt T I (.inl (p, F))) (hk0 : sK T p ≠ 0) (hc : I 98 0 = nI c) (hc8 : c ≤ 8) (Rd : F.1 = 0 → DR3 I y ∧ PW y) : ∃ J, Cl mX12_logLine [.ref 95] (g, I, P) none (g, J, P) ∧ KT I J ∧ PSt T J (mEnd T (kS T 3 p) p y F) ∧ (∃ c', J 98 0 = nI c' ∧ c' ≤ 8) ∧ (lF T (kS T 3 p) p = none → (tF T (kS T 3 p) p y F).1 = 0 → DR3 J (tY T (kS T 3 p) p y)) := by
  obtain ⟨C, hp, h8, D, f5, f6, hF⟩ := PSt_l h
  have b1 : q1 T p ≤ T.1 := (sE_b hp).2.1
  have b2 : q2 T p ≤ T.1 := (sE_b b1).2.1
  obtain ⟨I2, K, z2, x98, hR, kK, LK⟩ := r_roomK (g := g) (so := 3) (c := c) (lim := 8) S Q h hk0 (by decide)
  have hk : kS T 3 p = 0 ∨ kS T 3 p = 11 := by
    rcases kS_le (T := T) (so := 3) (p := p) (by decide) with e | ⟨-, e1, e2, e3⟩
    · exact Or.inl e
    · have e2 : 11 ≤ sW T p := e2
      have e3 : sW T p ≤ 11 := e3
      omega
  generalize hkk : kS T 3 p = k at *
  have K98 : K 98 = I 98 := kK.1 98 (by decide) (by decide) (by decide)
  have head : ∀ J, Zt none mX12_logLine 0 0 38 [(0, .ref 95)] [] (g, K, P) none (g, J, P) → Cl mX12_logLine [.ref 95] (g, I, P) none (g, J, P) := by
    intro J z
    refine eX12_logLine (wX12_logLine_0 ⟨S.k 95 12 (by decide), S.k 95 12 (by decide), _, _, z2, S.k 95 12 (by decide), fun e => ?_, fun e => ⟨S.k 95 12 (by decide), 98, Q.p 95 10 98 (by decide), S.k 98 13 (by decide), v0 S, fun e2 => ?_, fun e2 => ?_⟩⟩)
    · rcases hR with ⟨-, -, r3⟩ | ⟨-, r2, -⟩
      · rw [← r3]; exact z
      · exact absurd r2 e
    · rcases hR with ⟨-, r2, -⟩ | ⟨-, -, r3, -⟩
      · rw [r2] at e; exact absurd e (by decide)
      · rw [c0, x98, hc, n8, nI_ltI (by omega) (by decide)] at e2
        rw [← r3 e2]; exact z
    · rcases hR with ⟨-, r2, -⟩ | ⟨-, -, -, r4⟩
      · rw [r2] at e; exact absurd e (by decide)
      · rw [c0, x98, hc, n8, nI_ltI (by omega) (by decide)] at e2
        exact ⟨S.k 95 12 (by decide), K, by rw [D.2.1]; exact r4 e2, z⟩
  obtain ⟨va, Ja, za, ka, -, -, La, -, va11, ha⟩ := r_numbered (g := g) (lo := 0) (hi := 11) S Q LK (by decide) (by decide)
  obtain ⟨vb, Jb, zb', kb, -, -, Lb, -, vb9, hb⟩ := r_numbered (g := g) (lo := 0) (hi := 9) S Q La (by decide) (by decide)
  have B98 : Jb 98 = I 98 := by rw [kb.1 98 (by decide) (by decide) (by decide), ka.1 98 (by decide) (by decide) (by decide), K98]
  have tail : ∃ J, Zt none mX12_logLine 0 0 38 [(0, .ref 95)] [] (g, K, P) none (g, J, P) ∧ KT Jb J ∧ PSt T J (mTok T 3 fId (mTok T 2 (fNum T 0 9) (mTok T 2 (fNum T 0 11) (if k = 0 then .inr (sS T p) else .inl (q1 T p, nt F (decide (c < 8)) 3 (sS T p)))))) ∧ (c = 8 → J 98 = I 98) ∧ (c < 8 → ∀ j, J 98 j = if j = 0 then nI (c + 1) else if j = 1 + 2 * c then nI va else if j = 2 + 2 * c then nI vb else I 98 j) := by
    by_cases h8 : c < 8
    · obtain ⟨K3, hK3⟩ : ∃ K3, K3 = zU (zU (zU Jb 98 (1 + 2 * c) (nI va)) 98 (2 + 2 * c) (nI vb)) 98 0 (nI (c + 1)) := ⟨_, rfl⟩
      have LK3 : PSt T K3 (mTok T 2 (fNum T 0 9) (mTok T 2 (fNum T 0 11) (if k = 0 then .inr (sS T p) else .inl (q1 T p, nt F (decide (c < 8)) 3 (sS T p))))) := by rw [hK3]; exact PSt_u (PSt_u (PSt_u Lb _ _) _ _) _ _
      obtain ⟨J, z, kJ, LJ⟩ := r_endsLine S Q LK3
      have e98 : J 98 = K3 98 := kJ.1 98 (by decide) (by decide) (by decide)
      have i1 : (1 : Int32) + 2 * Jb 98 (0 : Int32).toNatClampNeg = nI (1 + 2 * c) := by rw [c0, B98, hc, n1, n2, pk_mul, nI_add]
      have i2 : (2 : Int32) + 2 * zU Jb 98 (1 + 2 * c) (nI va) 98 (0 : Int32).toNatClampNeg = nI (2 + 2 * c) := by rw [c0, zU_k _ _ (by omega), B98, hc, n2, pk_mul, nI_add]
      refine ⟨J, wX12_logLine_38 ⟨S.k 95 12 (by decide), _, _, za, S.k 95 12 (by decide), _, _, zb', S.k 95 12 (by decide), 98, Q.p 95 10 98 (by decide), S.k 98 13 (by decide), v0 S, fun e => ?_, fun _ => ⟨S.k 95 12 (by decide), 98, Q.p 95 10 98 (by decide), S.k 95 12 (by decide), 98, Q.p 95 10 98 (by decide), S.k 98 13 (by decide), v0 S, S.k 98 13 (by decide), by rw [i1]; exact v98 S (by omega), S.k 95 12 (by decide), 98, Q.p 95 10 98 (by decide), S.k 95 12 (by decide), 98, Q.p 95 10 98 (by decide), S.k 98 13 (by decide), v0 S, S.k 98 13 (by decide), ?_, S.k 95 12 (by decide), 98, Q.p 95 10 98 (by decide), S.k 98 13 (by decide), v0 S, S.k 98 13 (by decide), v0 S, S.k 95 12 (by decide), J, ?_, rfl, rfl⟩⟩, KT.tr (by rw [hK3]; exact ((KT.u _ _).tr (KT.u _ _)).tr (KT.u _ _)) kJ.t, LJ, fun e => by omega, fun _ j => ?_⟩
      · rw [c0, B98, hc] at e
        exact absurd e (nI_ge (b := 8) h8 (by decide))
      · rw [i1, nI_clamp (by omega), i2]; exact v98 S (by omega)
      · rw [i1, nI_clamp (by omega), i2, nI_clamp (by omega), c0, zU_k (k := 2 + 2 * c) (j := 0) _ _ (by omega), zU_k (k := 1 + 2 * c) (j := 0) _ _ (by omega), B98, hc, nI_1, ← hK3]
        exact z
      · rw [e98, hK3]
        by_cases e0 : j = 0
        · rw [if_pos e0, e0, zU_s]
        · rw [if_neg e0, zU_k _ _ e0]
          by_cases e2 : j = 2 + 2 * c
          · rw [if_neg (by omega), if_pos e2, e2, zU_s]
          · rw [zU_k _ _ e2]
            by_cases e1 : j = 1 + 2 * c
            · rw [if_pos e1, e1, zU_s]
            · rw [if_neg e1, if_neg e2, zU_k _ _ e1, B98]
    · obtain ⟨J, z, kJ, LJ⟩ := r_endsLine S Q Lb
      refine ⟨J, wX12_logLine_38 ⟨S.k 95 12 (by decide), _, _, za, S.k 95 12 (by decide), _, _, zb', S.k 95 12 (by decide), 98, Q.p 95 10 98 (by decide), S.k 98 13 (by decide), v0 S, fun _ => ⟨S.k 95 12 (by decide), J, z, rfl, rfl⟩, fun e => ?_⟩, kJ.t, LJ, fun _ => by rw [kJ.1 98 (by decide) (by decide) (by decide), B98], fun e => absurd e h8⟩
      rw [c0, B98, hc] at e
      exact absurd (nI_le (a := 8) (by omega) (by omega)) e
  obtain ⟨J, zJ, kJ, LJ, j8, jl⟩ := tail
  refine ⟨J, head J zJ, ((kK.tr ka).tr kb).t.tr kJ, ?_, ?_, fun hl hF0 => ?_⟩
  · rcases hk with e | e
    · subst e
      rw [mEnd_0]; exact LJ
    · subst e
      rw [if_neg (by decide), show mTok T 3 fId (mTok T 2 (fNum T 0 9) (mTok T 2 (fNum T 0 11) (.inl (q1 T p, nt F (decide (c < 8)) 3 (sS T p))))) = chn T 11 p (fNum T 0 9 (q2 T p) (fNum T 0 11 (q1 T p) (nt F (decide (c < 8)) 3 (sS T p)))) from ch2 (k := 11) (by decide) rfl] at LJ
      have eF : fNum T 0 9 (q2 T p) (fNum T 0 11 (q1 T p) (nt F (decide (c < 8)) 3 (sS T p))) = tF T 11 p y F := by
        show _ = nt (nt (nt F (decide ((yG y).1 < 8)) 3 (sS T p)) (decide (sN T (q1 T p) ≤ 11)) 2 (sS T (q1 T p))) (decide (sN T (q2 T p) ≤ 9)) 2 (sS T (q2 T p))
        unfold fNum
        rw [dle0, dle0]
        by_cases h0 : F.1 = 0
        · have e1 := (Rd h0).1.1
          have e2 := (Rd h0).2.2.2.2.2.2.2.1
          rw [hc, nI_eq (by omega) (by omega)] at e1
          rw [e1]
        · simp only [nt_n h0]
      unfold mEnd
      rw [← eF]; exact LJ
  · by_cases h8 : c < 8
    · exact ⟨c + 1, by rw [jl h8 0, if_pos rfl], by omega⟩
    · exact ⟨c, by rw [j8 (by omega)]; exact hc, hc8⟩
  · rcases hk with e | e
    · subst e; rw [lF_0] at hl; cases hl
    · subst e
      obtain ⟨-, s1, s2, -⟩ := lF_n hl
      have s1 : sK T (q1 T p) = 2 := s1
      have s2 : sK T (q2 T p) = 2 := (s2 rfl).1
      obtain ⟨t1, t2, -⟩ := nt_0 (by decide) hF0
      obtain ⟨t3, t4, -⟩ := nt_0 (by decide) t1
      obtain ⟨t5, t6, -⟩ := nt_0 (by decide) t3
      rw [decide_eq_true_eq] at t2 t4 t6
      obtain ⟨⟨d0, dd⟩, Y⟩ := Rd t5
      have gw := Y.2.2.2.2.2.2
      have ecn : c = (yG y).1 := by rw [hc, nI_eq (by omega) (by have := gw.1; omega)] at d0; exact d0
      subst ecn
      have E := jl t6
      have em : (if 11 = 0 then .inr (sS T p) else .inl (q1 T p, nt F (decide ((yG y).1 < 8)) 3 (sS T p)) : Md) = .inl (q1 T p, nt F (decide ((yG y).1 < 8)) 3 (sS T p)) := by rw [if_neg (by decide)]
      have eva := ha (q1 T p) _ em s1 (Nat.zero_le _) t4
      have evb := hb (q2 T p) _ (by rw [em]; exact mTok_t s1) s2 (Nat.zero_le _) t2
      refine ⟨by rw [E, if_pos rfl]; rfl, fun i hi => ?_⟩
      have hi : i < (yG y).1 + 1 := hi
      show J 98 (1 + 2 * i) = nI (upf (yG y).2.1 (yG y).1 (sN T (q1 T p)) i) ∧ J 98 (2 + 2 * i) = nI (upf (yG y).2.2 (yG y).1 (sN T (q2 T p)) i)
      by_cases e : i = (yG y).1
      · rw [e, upf_s, upf_s, E, if_neg (by omega), if_pos (by omega), E, if_neg (by omega), if_neg (by omega), if_pos (by omega), eva, evb]
        exact ⟨rfl, rfl⟩
      · rw [upf_n _ _ e, upf_n _ _ e, E, if_neg (by omega), if_neg (by omega), if_neg (by omega), E, if_neg (by omega), if_neg (by omega), if_neg (by omega)]
        exact dd i (by omega)
end RLINES
