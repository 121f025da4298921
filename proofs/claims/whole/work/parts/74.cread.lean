/-! ===== the class's Reader: a whole text ===== -/
def kC (k : Nat) : Nat := if k ≤ 4 then k else if k ≤ 6 then 5 else if k ≤ 9 then 6 else if k = 10 then 7 else 8
def KY (I J : Nat → Nat → Int32) : Prop := (∀ c, (c < 41 ∨ 58 < c) → J c = I c) ∧ J 58 1 = I 58 1
theorem KY.rf (I : Nat → Nat → Int32) : KY I I := ⟨fun _ _ => rfl, rfl⟩
theorem KY.tr {I J K : Nat → Nat → Int32} (h : KY I J) (h2 : KY J K) : KY I K := ⟨fun c a1 => (h2.1 c a1).trans (h.1 c a1), h2.2.trans h.2⟩
theorem K58.r {I J : Nat → Nat → Int32} (h : K58 I J) : KY I J := ⟨fun c hc => h.1 c (by omega), h.2⟩
theorem KD.r {I J : Nat → Nat → Int32} (h : KD I J) : KY I J := ⟨fun c hc => h.1 c (by omega), by rw [h.1 58 (by omega)]⟩
theorem KY.u {I : Nat → Nat → Int32} (k : Nat) (x : Int32) : KY I (zU I 41 k x) := ⟨fun c hc => by funext j; rw [zU_a _ _ (by omega)], by rw [zU_a _ _ (by decide)]⟩
theorem TpC.r {I J : Nat → Nat → Int32} {P : Nat → Nat → Option Nat} {T : Tp} (h : TpC I P T) (k : KY I J) : TpC J P T := ⟨h.1, h.2.1, h.2.2.1, k.2.trans h.2.2.2.1, fun q hq => by rw [k.1 2 (by omega)]; exact h.2.2.2.2 q hq⟩
theorem DatC.k {I J : Nat → Nat → Int32} {y : PS} (h : DatC I y) (k : ∀ c, 42 ≤ c → c ≤ 57 → J c = I c) : DatC J y := by
  obtain ⟨h1, h2, h3, h4, h5, h6⟩ := h
  exact ⟨h1.keep (fun j hj => k _ (by omega) (by omega)), fun w hw => by rw [k 45 (by decide) (by decide)]; exact h2 w hw, by rw [k 42 (by decide) (by decide)]; exact h3, h4.keep (fun j hj => k _ (by omega) (by omega)), h5.keep (fun j hj => k _ (by omega) (by omega)), h6.keep (fun j hj => k _ (by omega) (by omega))⟩
theorem RdC.k {I J : Nat → Nat → Int32} {y : PS} {F : FS} (h : RdC I y F) (k : ∀ c, 42 ≤ c → c ≤ 57 → J c = I c) (h4 : J 41 4 = I 41 4) (h5 : J 41 5 = I 41 5) : RdC J y F := ⟨⟨h4.trans h.1.1, h5.trans h.1.2⟩, fun h0 => ⟨(h.2 h0).1.k k, (h.2 h0).2⟩⟩
section CREAD
variable {g : zG} {I : Nat → Nat → Int32} {P : Nat → Nat → Option Nat} {T : Tp} {F : FS} {y : PS} {p : Nat}
theorem c_tellK {k : Nat} (S : Sg g) (Q : Sp P) (C : TpC I P T) (hp : p ≤ T.1) (R : RdC I y F) (hk : k ≤ 11) (D : FsD T I k p) (h : lF T k p = none) : ∃ J, Cl mX6_tell [.ref 41, .int (nI (kC k))] (g, I, P) none (g, J, P) ∧ KD I J ∧ RdC J (tY T k p y) (tF T k p y F) := by
  have k0 := (lF_n h).1
  have pw : ∀ J, FtC J (tF T k p y F) → ((tF T k p y F).1 = 0 → DatC J (tY T k p y)) → RdC J (tY T k p y) (tF T k p y F) := by
    intro J h1 h2
    refine ⟨h1, fun h0 => ⟨h2 h0, ?_⟩⟩
    by_cases hF : F.1 = 0
    · exact tY_pw hp (R.2 hF).2 hk h h0
    · exfalso
      have : tF T k p y F = F := by
        unfold tF
        simp only [nt_n hF]
        repeat' split
        all_goals rfl
      rw [this] at h0
      exact hF h0
  have hk : k = 1 ∨ k = 2 ∨ k = 3 ∨ k = 4 ∨ k = 5 ∨ k = 6 ∨ k = 7 ∨ k = 8 ∨ k = 9 ∨ k = 10 ∨ k = 11 := by omega
  rcases hk with rfl | rfl | rfl | rfl | rfl | rfl | rfl | rfl | rfl | rfl | rfl
  · obtain ⟨J, z, q1, q2, q3⟩ := c_tellWord S Q C hp R D h
    exact ⟨J, eX6_tell (wX6_tell_0 ⟨fun _ => ⟨S.k 41 6 (by decide), J, z, rfl, rfl⟩, fun e => absurd e (by decide), fun e => absurd e (by decide), fun e => absurd e (by decide), fun e => absurd e (by decide), fun e => absurd e (by decide), fun e => absurd e (by decide), fun e => absurd e (by decide), fun e => absurd (by decide) e⟩), q1, pw J q2 q3⟩
  · obtain ⟨J, z, q1, q2, q3⟩ := c_tellFollows S Q hp R D h
    exact ⟨J, eX6_tell (wX6_tell_0 ⟨fun e => absurd e (by decide), fun _ => ⟨S.k 41 6 (by decide), J, z, rfl, rfl⟩, fun e => absurd e (by decide), fun e => absurd e (by decide), fun e => absurd e (by decide), fun e => absurd e (by decide), fun e => absurd e (by decide), fun e => absurd e (by decide), fun _ e => absurd (by decide) e⟩), q1, pw J q2 q3⟩
  · obtain ⟨J, z, q1, q2, q3⟩ := c_tellAsks S Q hp R D h
    exact ⟨J, eX6_tell (wX6_tell_0 ⟨fun e => absurd e (by decide), fun e => absurd e (by decide), fun _ => ⟨S.k 41 6 (by decide), J, z, rfl, rfl⟩, fun e => absurd e (by decide), fun e => absurd e (by decide), fun e => absurd e (by decide), fun e => absurd e (by decide), fun e => absurd e (by decide), fun _ _ e => absurd (by decide) e⟩), q1, pw J q2 q3⟩
  · obtain ⟨J, z, q1, q2, q3⟩ := c_tellStones S Q hp R D h
    exact ⟨J, eX6_tell (wX6_tell_0 ⟨fun e => absurd e (by decide), fun e => absurd e (by decide), fun e => absurd e (by decide), fun _ => ⟨S.k 41 6 (by decide), J, z, rfl, rfl⟩, fun e => absurd e (by decide), fun e => absurd e (by decide), fun e => absurd e (by decide), fun e => absurd e (by decide), fun _ _ _ e => absurd (by decide) e⟩), q1, pw J q2 q3⟩
  · obtain ⟨J, z, q1, q2, q3⟩ := c_tellDeed S Q C hp R (by decide) (by decide) D h
    exact ⟨J, eX6_tell (wX6_tell_0 ⟨fun e => absurd e (by decide), fun e => absurd e (by decide), fun e => absurd e (by decide), fun e => absurd e (by decide), fun _ => ⟨S.k 41 6 (by decide), J, z, rfl, rfl⟩, fun e => absurd e (by decide), fun e => absurd e (by decide), fun e => absurd e (by decide), fun _ _ _ _ e => absurd (by decide) e⟩), q1, pw J q2 q3⟩
  · obtain ⟨J, z, q1, q2, q3⟩ := c_tellDeed S Q C hp R (by decide) (by decide) D h
    exact ⟨J, eX6_tell (wX6_tell_0 ⟨fun e => absurd e (by decide), fun e => absurd e (by decide), fun e => absurd e (by decide), fun e => absurd e (by decide), fun _ => ⟨S.k 41 6 (by decide), J, z, rfl, rfl⟩, fun e => absurd e (by decide), fun e => absurd e (by decide), fun e => absurd e (by decide), fun _ _ _ _ e => absurd (by decide) e⟩), q1, pw J q2 q3⟩
  · obtain ⟨J, z, q1, q2, q3⟩ := c_tellDeed S Q C hp R (by decide) (by decide) D h
    exact ⟨J, eX6_tell (wX6_tell_0 ⟨fun e => absurd e (by decide), fun e => absurd e (by decide), fun e => absurd e (by decide), fun e => absurd e (by decide), fun e => absurd e (by decide), fun _ => ⟨S.k 41 6 (by decide), J, z, rfl, rfl⟩, fun e => absurd e (by decide), fun e => absurd e (by decide), fun _ _ _ _ _ e => absurd (by decide) e⟩), q1, pw J q2 q3⟩
  · obtain ⟨J, z, q1, q2, q3⟩ := c_tellDeed S Q C hp R (by decide) (by decide) D h
    exact ⟨J, eX6_tell (wX6_tell_0 ⟨fun e => absurd e (by decide), fun e => absurd e (by decide), fun e => absurd e (by decide), fun e => absurd e (by decide), fun e => absurd e (by decide), fun _ => ⟨S.k 41 6 (by decide), J, z, rfl, rfl⟩, fun e => absurd e (by decide), fun e => absurd e (by decide), fun _ _ _ _ _ e => absurd (by decide) e⟩), q1, pw J q2 q3⟩
  · obtain ⟨J, z, q1, q2, q3⟩ := c_tellDeed S Q C hp R (by decide) (by decide) D h
    exact ⟨J, eX6_tell (wX6_tell_0 ⟨fun e => absurd e (by decide), fun e => absurd e (by decide), fun e => absurd e (by decide), fun e => absurd e (by decide), fun e => absurd e (by decide), fun _ => ⟨S.k 41 6 (by decide), J, z, rfl, rfl⟩, fun e => absurd e (by decide), fun e => absurd e (by decide), fun _ _ _ _ _ e => absurd (by decide) e⟩), q1, pw J q2 q3⟩
  · obtain ⟨J, z, q1, q2, q3⟩ := c_tellLine S Q C hp R D h
    exact ⟨J, eX6_tell (wX6_tell_0 ⟨fun e => absurd e (by decide), fun e => absurd e (by decide), fun e => absurd e (by decide), fun e => absurd e (by decide), fun e => absurd e (by decide), fun e => absurd e (by decide), fun _ => ⟨S.k 41 6 (by decide), J, z, rfl, rfl⟩, fun e => absurd e (by decide), fun _ _ _ _ _ _ e => absurd (by decide) e⟩), q1, pw J q2 q3⟩
  · obtain ⟨J, z, q1, q2, q3⟩ := c_tellFact S Q hp R D h
    exact ⟨J, eX6_tell (wX6_tell_0 ⟨fun e => absurd e (by decide), fun e => absurd e (by decide), fun e => absurd e (by decide), fun e => absurd e (by decide), fun e => absurd e (by decide), fun e => absurd e (by decide), fun e => absurd e (by decide), fun _ => ⟨S.k 41 6 (by decide), J, z, rfl, rfl⟩, fun _ _ _ _ _ _ _ e => absurd (by decide) e⟩), q1, pw J q2 q3⟩
theorem kS_at {so j : Nat} (h : sK T p = 1 ∧ sW T p = j + 1) (h1 : kLo so ≤ j + 1) (h2 : j + 1 ≤ kHi so) : kS T so p = j + 1 := by
  unfold kS
  rw [if_pos ⟨h.1, by rw [h.2]; exact h1, by rw [h.2]; exact h2⟩, h.2]
theorem kS_no {so : Nat} (h : ∀ j, kLo so ≤ j + 1 → j + 1 ≤ kHi so → ¬ (sK T p = 1 ∧ sW T p = j + 1)) : kS T so p = 0 := by
  unfold kS
  by_cases e : sK T p = 1 ∧ kLo so ≤ sW T p ∧ sW T p ≤ kHi so
  · exfalso
    have h1 := (sW_le T p).1
    exact h (sW T p - 1) (by omega) (by omega) ⟨e.1, by omega⟩
  · rw [if_neg e]
theorem c_hillKey (S : Sg g) (Q : Sp P) (C : TpC I P T) (hp : p ≤ T.1) (D : TkD T I p) : Cl mX6_hillKey [.ref 41] (g, I, P) (some (.int (nI (kC (kS T 0 p))))) (g, I, P) := by
  refine eX6_hillKey (wX6_hillKey_0 ⟨S.k 41 6 (by decide), 58, Q.p 41 6 58 (by decide), S.k 58 8 (by decide), _, c_is (j := 0) S C hp D (by decide), fun e0 => ⟨S.k 41 6 (by decide), 58, Q.p 41 6 58 (by decide), S.k 58 8 (by decide), _, c_is (j := 1) S C hp D (by decide), fun e1 => ⟨S.k 41 6 (by decide), 58, Q.p 41 6 58 (by decide), S.k 58 8 (by decide), _, c_is (j := 2) S C hp D (by decide), fun e2 => ⟨S.k 41 6 (by decide), 58, Q.p 41 6 58 (by decide), S.k 58 8 (by decide), _, c_is (j := 3) S C hp D (by decide), fun e3 => ⟨?_, rfl⟩, fun e3 => ⟨?_, rfl⟩⟩, fun e2 => ⟨?_, rfl⟩⟩, fun e1 => ⟨?_, rfl⟩⟩, fun e0 => ⟨?_, rfl⟩⟩)
  · rw [zb_eq, decide_eq_false_iff_not] at e0 e1 e2 e3
    rw [kS_no (so := 0) (fun j h1 h2 h => by
      have h1 : 1 ≤ j + 1 := h1
      have h2 : j + 1 ≤ 4 := h2
      rcases (show j = 0 ∨ j = 1 ∨ j = 2 ∨ j = 3 by omega) with rfl | rfl | rfl | rfl
      · exact e0 h
      · exact e1 h
      · exact e2 h
      · exact e3 h)]; rfl
  · rw [← ne_eq, zb_ne, decide_eq_true_eq] at e3
    rw [kS_at (so := 0) e3 (by decide) (by decide)]; rfl
  · rw [← ne_eq, zb_ne, decide_eq_true_eq] at e2
    rw [kS_at (so := 0) e2 (by decide) (by decide)]; rfl
  · rw [← ne_eq, zb_ne, decide_eq_true_eq] at e1
    rw [kS_at (so := 0) e1 (by decide) (by decide)]; rfl
  · rw [← ne_eq, zb_ne, decide_eq_true_eq] at e0
    rw [kS_at (so := 0) e0 (by decide) (by decide)]; rfl
theorem c_deedOf (S : Sg g) (Q : Sp P) (C : TpC I P T) (hp : p ≤ T.1) (D : TkD T I p) : ∃ x, Cl mX6_deedOfToken [.ref 41] (g, I, P) (some (.int x)) (g, I, P) ∧ ((kS T 1 p = 0 ∧ x = -1) ∨ (5 ≤ kS T 1 p ∧ kS T 1 p ≤ 9 ∧ x = nI (kS T 1 p - 5))) := by
  have go : ∀ x, ((kS T 1 p = 0 ∧ x = -1) ∨ (5 ≤ kS T 1 p ∧ kS T 1 p ≤ 9 ∧ x = nI (kS T 1 p - 5))) → Cl mX6_deedOfToken [.ref 41] (g, I, P) (some (.int x)) (g, I, P) := by
    intro x hx
    have at' : ∀ j, 4 ≤ j → j ≤ 8 → (sK T p = 1 ∧ sW T p = j + 1) → x = nI (j - 4) := by
      intro j j4 j8 h
      have e := kS_at (so := 1) h (show 5 ≤ j + 1 by omega) (show j + 1 ≤ 9 by omega)
      rcases hx with ⟨h1, -⟩ | ⟨-, -, h3⟩
      · omega
      · rw [h3, e, show j + 1 - 5 = j - 4 by omega]
    refine eX6_deedOfToken (wX6_deedOfToken_0 ⟨S.k 41 6 (by decide), 58, Q.p 41 6 58 (by decide), S.k 58 8 (by decide), _, c_is (j := 4) S C hp D (by decide), fun e0 => ⟨S.k 41 6 (by decide), 58, Q.p 41 6 58 (by decide), S.k 58 8 (by decide), _, c_is (j := 5) S C hp D (by decide), fun e1 => ⟨S.k 41 6 (by decide), 58, Q.p 41 6 58 (by decide), S.k 58 8 (by decide), _, c_is (j := 6) S C hp D (by decide), fun e2 => ⟨S.k 41 6 (by decide), 58, Q.p 41 6 58 (by decide), S.k 58 8 (by decide), _, c_is (j := 7) S C hp D (by decide), fun e3 => ⟨S.k 41 6 (by decide), 58, Q.p 41 6 58 (by decide), S.k 58 8 (by decide), _, c_is (j := 8) S C hp D (by decide), fun e4 => ⟨?_, rfl⟩, fun e4 => ⟨?_, rfl⟩⟩, fun e3 => ⟨?_, rfl⟩⟩, fun e2 => ⟨?_, rfl⟩⟩, fun e1 => ⟨?_, rfl⟩⟩, fun e0 => ⟨?_, rfl⟩⟩)
    · rw [zb_eq, decide_eq_false_iff_not] at e0 e1 e2 e3 e4
      have e := kS_no (so := 1) (p := p) (T := T) (fun j h1 h2 h => by
        have h1 : 5 ≤ j + 1 := h1
        have h2 : j + 1 ≤ 9 := h2
        rcases (show j = 4 ∨ j = 5 ∨ j = 6 ∨ j = 7 ∨ j = 8 by omega) with rfl | rfl | rfl | rfl | rfl
        · exact e0 h
        · exact e1 h
        · exact e2 h
        · exact e3 h
        · exact e4 h)
      rcases hx with ⟨-, h2⟩ | ⟨h1, -⟩
      · rw [h2]
      · omega
    · rw [← ne_eq, zb_ne, decide_eq_true_eq] at e4; rw [at' 8 (by decide) (by decide) e4]; rfl
    · rw [← ne_eq, zb_ne, decide_eq_true_eq] at e3; rw [at' 7 (by decide) (by decide) e3]; rfl
    · rw [← ne_eq, zb_ne, decide_eq_true_eq] at e2; rw [at' 6 (by decide) (by decide) e2]; rfl
    · rw [← ne_eq, zb_ne, decide_eq_true_eq] at e1; rw [at' 5 (by decide) (by decide) e1]; rfl
    · rw [← ne_eq, zb_ne, decide_eq_true_eq] at e0; rw [at' 4 (by decide) (by decide) e0]; rfl
  rcases kS_le (T := T) (so := 1) (p := p) (by decide) with h | ⟨-, h2, h3, h4⟩
  · exact ⟨-1, go _ (Or.inl ⟨h, rfl⟩), Or.inl ⟨h, rfl⟩⟩
  · have h3 : 5 ≤ sW T p := h3
    have h4 : sW T p ≤ 9 := h4
    exact ⟨_, go _ (Or.inr ⟨by omega, by omega, rfl⟩), Or.inr ⟨by omega, by omega, rfl⟩⟩
theorem c_keyOf {so : Nat} (S : Sg g) (Q : Sp P) (C : TpC I P T) (hp : p ≤ T.1) (D : TkD T I p) (hso : so < 4) : ∃ J, Cl mX6_keyOf [.ref 41, .int (nI so)] (g, I, P) (some (.int (nI (kC (kS T so p))))) (g, J, P) ∧ (∀ c, c ≠ 41 → J c = I c) ∧ (∀ k, k ≠ 9 → J 41 k = I 41 k) ∧ (5 ≤ kS T so p → kS T so p ≤ 9 → J 41 9 = nI (kS T so p - 5)) := by
  rcases (show so = 0 ∨ so = 1 ∨ so = 2 ∨ so = 3 by omega) with rfl | rfl | rfl | rfl
  · refine ⟨I, eX6_keyOf (wX6_keyOf_0 ⟨fun _ => ⟨S.k 41 6 (by decide), _, c_hillKey S Q C hp D, rfl, rfl⟩, fun e => absurd e (by decide), fun e => absurd e (by decide), fun e => absurd e (by decide), fun e => absurd (by decide) e⟩), fun _ _ => rfl, fun _ _ => rfl, fun h1 _ => ?_⟩
    rcases kS_le (T := T) (so := 0) (p := p) (by decide) with h | ⟨-, h2, -, h4⟩
    · omega
    · have h4 : sW T p ≤ 4 := h4
      omega
  · obtain ⟨x, zx, hx⟩ := c_deedOf S Q C hp D
    have key : Cl mX6_centuryKey [.ref 41] (g, I, P) (some (.int (nI (kC (kS T 1 p))))) (g, zU I 41 9 x, P) := by
      refine eX6_centuryKey (wX6_centuryKey_0 ⟨S.k 41 6 (by decide), x, zx, S.k 41 6 (by decide), S.k 41 6 (by decide), fun e => ⟨S.k 41 6 (by decide), fun e1 => ⟨?_, rfl⟩, fun e1 => ⟨S.k 41 6 (by decide), fun e2 => ⟨?_, rfl⟩, fun e2 => ⟨?_, rfl⟩⟩⟩, fun e => ⟨?_, rfl⟩⟩)
      · rw [zU_s] at e e1
        rcases hx with ⟨-, h2⟩ | ⟨h1, h3, h4⟩
        · exact absurd h2 e
        · rw [h4, n0, nI_eq (by omega) (by decide)] at e1
          rw [show kS T 1 p = 5 by omega]; rfl
      · rw [zU_s] at e e1 e2
        rcases hx with ⟨-, h2⟩ | ⟨h1, h3, h4⟩
        · exact absurd h2 e
        · rw [h4, n0, nI_eq (by omega) (by decide)] at e1
          rw [h4, n1, nI_eq (by omega) (by decide)] at e2
          rw [show kC (kS T 1 p) = 6 by unfold kC; rw [if_neg (by omega), if_neg (by omega), if_pos h3]]; rfl
      · rw [zU_s] at e e1 e2
        rcases hx with ⟨-, h2⟩ | ⟨h1, h3, h4⟩
        · exact absurd h2 e
        · rw [h4, n1, nI_eq (by omega) (by decide)] at e2
          rw [show kS T 1 p = 6 by omega]; rfl
      · rw [zU_s] at e
        rcases hx with ⟨h1, h2⟩ | ⟨h1, h3, h4⟩
        · rw [h1]; rfl
        · rw [h4] at e; exact absurd e (nI_m1' (by omega))
    refine ⟨zU I 41 9 x, eX6_keyOf (wX6_keyOf_0 ⟨fun e => absurd e (by decide), fun _ => ⟨S.k 41 6 (by decide), _, _, key, rfl, rfl⟩, fun e => absurd e (by decide), fun e => absurd e (by decide), fun _ e => absurd (by decide) e⟩), fun c hc => by funext j; rw [zU_a _ _ hc], fun k hk => by rw [zU_k _ _ hk], fun h1 h2 => ?_⟩
    rw [zU_s]
    rcases hx with ⟨h3, -⟩ | ⟨-, -, h4⟩
    · omega
    · exact h4
  · refine ⟨I, eX6_keyOf (wX6_keyOf_0 ⟨fun e => absurd e (by decide), fun e => absurd e (by decide), fun _ => ⟨S.k 41 6 (by decide), 58, Q.p 41 6 58 (by decide), S.k 58 8 (by decide), _, c_is (j := 9) S C hp D (by decide), fun e => ⟨?_, rfl⟩, fun e => ⟨?_, rfl⟩⟩, fun e => absurd e (by decide), fun _ _ e => absurd (by decide) e⟩), fun _ _ => rfl, fun _ _ => rfl, fun h1 h2 => ?_⟩
    · rw [zb_eq, decide_eq_false_iff_not] at e
      rw [kS_no (so := 2) (fun j h1 h2 h => by
        have h1 : 10 ≤ j + 1 := h1
        have h2 : j + 1 ≤ 10 := h2
        obtain rfl : j = 9 := by omega
        exact e h)]; rfl
    · rw [← ne_eq, zb_ne, decide_eq_true_eq] at e
      rw [kS_at (so := 2) e (by decide) (by decide)]; rfl
    · rcases kS_le (T := T) (so := 2) (p := p) (by decide) with h | ⟨-, h3, h4, -⟩
      · omega
      · have h4 : 10 ≤ sW T p := h4
        omega
  · refine ⟨I, eX6_keyOf (wX6_keyOf_0 ⟨fun e => absurd e (by decide), fun e => absurd e (by decide), fun e => absurd e (by decide), fun _ => ⟨S.k 41 6 (by decide), 58, Q.p 41 6 58 (by decide), S.k 58 8 (by decide), _, c_is (j := 10) S C hp D (by decide), fun e => ⟨?_, rfl⟩, fun e => ⟨?_, rfl⟩⟩, fun _ _ _ e => absurd (by decide) e⟩), fun _ _ => rfl, fun _ _ => rfl, fun h1 h2 => ?_⟩
    · rw [zb_eq, decide_eq_false_iff_not] at e
      rw [kS_no (so := 3) (fun j h1 h2 h => by
        have h1 : 11 ≤ j + 1 := h1
        have h2 : j + 1 ≤ 11 := h2
        obtain rfl : j = 10 := by omega
        exact e h)]; rfl
    · rw [← ne_eq, zb_ne, decide_eq_true_eq] at e
      rw [kS_at (so := 3) e (by decide) (by decide)]; rfl
    · rcases kS_le (T := T) (so := 3) (p := p) (by decide) with h | ⟨-, h3, h4, -⟩
      · omega
      · have h4 : 11 ≤ sW T p := h4
        omega
theorem c_refuse (S : Sg g) (Q : Sp P) : Cl mX6_refuse [.ref 41] (g, I, P) (some (.int 0)) (g, zU (zU I 41 4 1) 41 5 (I 58 4), P) := by
  refine eX6_refuse (wX6_refuse_0 ⟨S.k 41 6 (by decide), S.k 41 6 (by decide), 58, Q.p 41 6 58 (by decide), S.k 58 8 (by decide), S.k 41 6 (by decide), rfl, ?_⟩)
  rw [zU_a (f := I) (a := 41) (k := 4) (b := 58) (j := 4) _ (by decide)]
/-- how a line ends -/
def LnE (T : Tp) (I J : Nat → Nat → Int32) (k p : Nat) (y : PS) (F : FS) (c : Bool) : Prop := KY I J ∧ (∀ q, lF T k p = some q → c = false ∧ FtC J (1, nI q)) ∧ (lF T k p = none → c = true ∧ J 58 2 = nI (lX T k p) ∧ RdC J (tY T k p y) (tF T k p y F))
/-- a token that no line has there -/
theorem LnE.bad {I J : Nat → Nat → Int32} {k r : Nat} (kr : KY I J) (D : TkD T J r) (hl : lF T k p = some (sS T r)) : LnE T I (zU (zU J 41 4 1) 41 5 (J 58 4)) k p y F false := by
  refine ⟨(kr.tr (KY.u _ _)).tr (KY.u _ _), fun q hq => ?_, fun h => ?_⟩
  · rw [hl] at hq
    cases hq
    exact ⟨rfl, by rw [zU_k _ _ (by decide), zU_s], by rw [zU_s, D.2.2.1]⟩
  · rw [hl] at h; cases h
theorem c_r115 {k r : Nat} (S : Sg g) (Q : Sp P) (C : TpC I P T) (hp : p ≤ T.1) (hr : r = if ktw k = true then q3 T p else q2 T p) (h2 : I 58 2 = nI r) (hk0 : k ≠ 0) (hk : k ≤ 11) (k1 : sK T (q1 T p) = kf k) (k2 : ktw k = true → sK T (q2 T p) = ks k) (D : FsD T I k p) (R : RdC I y F) : ∃ c J, Zt none mX6_readOne 0 0 115 [(0, .ref 41), (1, .int (nI (kC k)))] [] (g, I, P) (some (.int (zb c))) (g, J, P) ∧ LnE T I J k p y F c := by
  have b1 : q1 T p ≤ T.1 := (sE_b hp).2.1
  have b2 : q2 T p ≤ T.1 := (sE_b b1).2.1
  have b3 : q3 T p ≤ T.1 := (sE_b b2).2.1
  have br : r ≤ T.1 := by rw [hr]; split <;> assumption
  have hkr := sK_le (T := T) (p := r)
  obtain ⟨I4, z4, k4, D4⟩ := c_step S C br h2
  by_cases h3 : sK T r = 3
  · have hl : lF T k p = none := by
      unfold lF
      rw [if_neg hk0, if_neg (fun e => e k1)]
      by_cases ht : ktw k = true
      · rw [if_pos ht] at hr ⊢
        rw [if_neg (fun e => e (k2 ht)), ← hr, if_neg (fun e => e h3)]
      · rw [if_neg ht] at hr ⊢
        rw [← hr, if_neg (fun e => e h3)]
    have D' : FsD T I4 k p := by unfold FsD; rw [k4.1 41 (by decide)]; exact D
    have R' : RdC I4 y F := R.k (fun c c1 c2 => k4.1 c (by omega)) (by rw [k4.1 41 (by decide)]) (by rw [k4.1 41 (by decide)])
    obtain ⟨J, zJ, kJ, RJ⟩ := c_tellK S Q (C.k k4) hp R' hk D' hl
    refine ⟨true, J, wX6_readOne_115 ⟨S.k 41 6 (by decide), 58, Q.p 41 6 58 (by decide), S.k 58 8 (by decide), _, z4, S.k 41 6 (by decide), 58, Q.p 41 6 58 (by decide), S.k 58 8 (by decide), fun _ => ⟨S.k 41 6 (by decide), _, zJ, rfl, rfl⟩, fun e => absurd (by rw [D4.2.1, h3]; rfl) e⟩, k4.r.tr kJ.r, fun q hq => by (rw [hl] at hq; cases hq), fun _ => ⟨rfl, ?_, RJ⟩⟩
    rw [kJ.1 58 (by omega), D4.1]
    unfold lX
    rw [hr]
    split <;> rfl
  · have hl : lF T k p = some (sS T r) := by
      unfold lF
      rw [if_neg hk0, if_neg (fun e => e k1)]
      by_cases ht : ktw k = true
      · rw [if_pos ht] at hr ⊢
        rw [if_neg (fun e => e (k2 ht)), ← hr, if_pos h3]
      · rw [if_neg ht] at hr ⊢
        rw [← hr, if_pos h3]
    refine ⟨false, _, wX6_readOne_115 ⟨S.k 41 6 (by decide), 58, Q.p 41 6 58 (by decide), S.k 58 8 (by decide), _, z4, S.k 41 6 (by decide), 58, Q.p 41 6 58 (by decide), S.k 58 8 (by decide), fun e => ?_, fun _ => ⟨S.k 41 6 (by decide), _, _, c_refuse S Q, Or.inl rfl, rfl, rfl⟩⟩, LnE.bad k4.r D4 hl⟩
    rw [D4.2.1] at e
    exact absurd ((nI_10 (by omega) 3 (by decide) 3 rfl).mp e) h3
theorem c_readOne {k : Nat} (S : Sg g) (Q : Sp P) (C : TpC I P T) (hp : p ≤ T.1) (D : TkD T I p) (hk : k ≤ 11) (h9 : 5 ≤ k → k ≤ 9 → I 41 9 = nI (k - 5)) (R : RdC I y F) : ∃ c J, Cl mX6_readOne [.ref 41, .int (nI (kC k))] (g, I, P) (some (.int (zb c))) (g, J, P) ∧ LnE T I J k p y F c := by
  have b1 : q1 T p ≤ T.1 := (sE_b hp).2.1
  have b2 : q2 T p ≤ T.1 := (sE_b b1).2.1
  have b3 : q3 T p ≤ T.1 := (sE_b b2).2.1
  obtain ⟨K0, hK0⟩ : ∃ K0, K0 = zU I 41 8 (I 58 4) := ⟨_, rfl⟩
  have r0 : KY I K0 := by rw [hK0]; exact KY.u _ _
  have x0 : ∀ c, c ≠ 41 → K0 c = I c := fun c hc => by rw [hK0]; funext j; rw [zU_a _ _ hc]
  have w0 : ∀ k, k ≠ 8 → K0 41 k = I 41 k := fun k hk => by rw [hK0, zU_k _ _ hk]
  have w8 : K0 41 8 = nI (sS T p) := by rw [hK0, zU_s]; exact D.2.2.1
  have RK0 : RdC K0 y F := R.k (fun c c1 c2 => x0 c (by omega)) (w0 4 (by decide)) (w0 5 (by decide))
  have kck : kC k ≤ 8 := by unfold kC; repeat' split
                            all_goals omega
  by_cases h0 : k = 0
  · subst h0
    have hl : lF T 0 p = some (sS T p) := by unfold lF; rw [if_pos rfl]
    have DK : TkD T K0 p := by unfold TkD; rw [x0 58 (by decide)]; exact D
    have z := c_refuse (g := g) (I := K0) (P := P) S Q
    rw [hK0] at z
    refine ⟨false, _, eX6_readOne (wX6_readOne_0 ⟨S.k 41 6 (by decide), 58, Q.p 41 6 58 (by decide), S.k 58 8 (by decide), S.k 41 6 (by decide), fun e => absurd (by decide) e, fun _ => ⟨S.k 41 6 (by decide), _, _, z, Or.inl rfl, rfl, rfl⟩⟩), ?_⟩
    rw [← hK0]
    exact LnE.bad r0 DK hl
  · obtain ⟨I8, z8, k8, D8⟩ := c_step S (C.r r0) b1 (by rw [x0 58 (by decide)]; exact D.1)
    have v8 : ∀ c, c ≠ 58 → I8 c = K0 c := k8.1
    have kx0 : ¬ nI (kC k) = 0 := by
      rw [n0, nI_eq (by omega) (by decide)]
      unfold kC
      repeat' split
      all_goals omega
    have kx1 : nI (kC k) = 1 ↔ k = 1 := by
      rw [n1, nI_eq (by omega) (by decide)]
      unfold kC
      repeat' split
      all_goals omega
    have kx7 : nI (kC k) = 7 ↔ k = 10 := by
      rw [show (7 : Int32) = nI 7 from rfl, nI_eq (by omega) (by decide)]
      unfold kC
      repeat' split
      all_goals omega
    have kx4 : nI (kC k) = 4 ↔ k = 4 := by
      rw [show (4 : Int32) = nI 4 from rfl, nI_eq (by omega) (by decide)]
      unfold kC
      repeat' split
      all_goals omega
    have kx6 : nI (kC k) = 6 ↔ 7 ≤ k ∧ k ≤ 9 := by
      rw [show (6 : Int32) = nI 6 from rfl, nI_eq (by omega) (by decide)]
      unfold kC
      repeat' split
      all_goals omega
    have kx5 : nI (kC k) = 5 ↔ k = 5 ∨ k = 6 := by
      rw [show (5 : Int32) = nI 5 from rfl, nI_eq (by omega) (by decide)]
      unfold kC
      repeat' split
      all_goals omega
    have z0 : ∀ c J, Zt none mX6_readOne 0 0 50 [(0, .ref 41), (1, .int (nI (kC k)))] [.int (nI (kf k)), .int (I8 58 3)] (g, I8, P) (some (.int (zb c))) (g, J, P) → Cl mX6_readOne [.ref 41, .int (nI (kC k))] (g, I, P) (some (.int (zb c))) (g, J, P) := by
      intro c J z
      refine eX6_readOne (wX6_readOne_0 ⟨S.k 41 6 (by decide), 58, Q.p 41 6 58 (by decide), S.k 58 8 (by decide), S.k 41 6 (by decide), fun _ => ⟨S.k 41 6 (by decide), 58, Q.p 41 6 58 (by decide), S.k 58 8 (by decide), I8, by rw [← hK0]; exact z8, S.k 41 6 (by decide), 58, Q.p 41 6 58 (by decide), S.k 58 8 (by decide), fun e => ?_, fun e => ⟨fun e2 => ?_, fun e2 => ?_⟩⟩, fun e => absurd e kx0⟩)
      · rw [kx1] at e
        rw [show kf k = 1 by unfold kf; rw [if_pos (Or.inl e)]] at z
        exact z
      · rw [kx1] at e; rw [kx7] at e2
        rw [show kf k = 2 by unfold kf; rw [if_neg (by omega)]] at z
        exact z
      · rw [kx7] at e2
        rw [show kf k = 1 by unfold kf; rw [if_pos (Or.inr e2)]] at z
        exact z
    have kfle : kf k ≤ 2 := by unfold kf; split <;> omega
    have skle := sK_le (T := T) (p := q1 T p)
    have skle2 := sK_le (T := T) (p := q2 T p)
    by_cases h1 : sK T (q1 T p) = kf k
    · -- the first is kept
      obtain ⟨I2, hI2⟩ : ∃ I2, I2 = zU (zU (zU I8 41 10 (I8 58 4)) 41 11 (I8 58 5)) 41 12 (I8 58 6) := ⟨_, rfl⟩
      have kF : Cl mX6_keepFirst [.ref 41] (g, I8, P) none (g, I2, P) := by
        refine eX6_keepFirst (wX6_keepFirst_0 ⟨S.k 41 6 (by decide), 58, Q.p 41 6 58 (by decide), S.k 58 8 (by decide), S.k 41 6 (by decide), S.k 41 6 (by decide), 58, Q.p 41 6 58 (by decide), S.k 58 8 (by decide), S.k 41 6 (by decide), S.k 41 6 (by decide), 58, Q.p 41 6 58 (by decide), S.k 58 8 (by decide), S.k 41 6 (by decide), rfl, ?_⟩)
        rw [zU_a (f := I8) (a := 41) (k := 10) (b := 58) (j := 5) _ (by decide), zU_a (a := 41) (k := 11) (b := 58) (j := 6) _ _ (by decide), zU_a (f := I8) (a := 41) (k := 10) (b := 58) (j := 6) _ (by decide), hI2]
      have y2 : ∀ c, c ≠ 41 → I2 c = I8 c := fun c hc => by rw [hI2]; funext j; rw [zU_a _ _ hc, zU_a _ _ hc, zU_a _ _ hc]
      have u2 : ∀ k, k ≠ 10 → k ≠ 11 → k ≠ 12 → I2 41 k = I8 41 k := fun k a b c => by rw [hI2, zU_k _ _ c, zU_k _ _ b, zU_k _ _ a]
      have r2 : KY I I2 := (r0.tr k8.r).tr (by rw [hI2]; exact ((KY.u _ _).tr (KY.u _ _)).tr (KY.u _ _))
      have e10 : I2 41 10 = nI (sS T (q1 T p)) := by rw [hI2, zU_k _ _ (by decide), zU_k _ _ (by decide), zU_s]; exact D8.2.2.1
      have e11 : I2 41 11 = nI (sZ T (q1 T p)) := by rw [hI2, zU_k _ _ (by decide), zU_s]; exact D8.2.2.2.1
      have e12 : sK T (q1 T p) = 2 → I2 41 12 = nI (sN T (q1 T p)) := fun h => by rw [hI2, zU_s]; exact D8.2.2.2.2 h
      have o2 : ∀ k, k ≠ 8 → k ≠ 10 → k ≠ 11 → k ≠ 12 → I2 41 k = I 41 k := fun k a b c d => by rw [u2 k b c d, v8 41 (by decide), w0 k a]
      have e8 : I2 41 8 = nI (sS T p) := by rw [u2 8 (by decide) (by decide) (by decide), v8 41 (by decide)]; exact w8
      have R2 : RdC I2 y F := R.k (fun c c1 c2 => by rw [y2 c (by omega), v8 c (by omega), x0 c (by omega)]) (o2 4 (by decide) (by decide) (by decide) (by decide)) (o2 5 (by decide) (by decide) (by decide) (by decide))
      have at2 : I2 58 2 = nI (q2 T p) := by rw [y2 58 (by decide)]; exact D8.1
      cases ht : ktw k with
      | false =>
        have hkk : k = 4 ∨ (7 ≤ k ∧ k ≤ 9) ∨ k = 10 := by unfold ktw at ht; rw [decide_eq_false_iff_not] at ht; omega
        obtain ⟨c, J, z, L⟩ := c_r115 (r := q2 T p) (k := k) S Q (C.r r2) hp (by rw [ht]; rfl) at2 h0 hk h1 (fun e => by rw [ht] at e; cases e) ⟨e8, e10, e11, e12, fun e => by (rw [ht] at e; cases e), fun a b => by rw [o2 9 (by decide) (by decide) (by decide) (by decide)]; exact h9 a b⟩ R2
        refine ⟨c, J, z0 c J (wX6_readOne_50 ⟨fun _ => ⟨S.k 41 6 (by decide), I2, kF, fun _ => z, fun e4 => ⟨fun _ => z, fun e6 => ⟨fun _ => z, fun e7 => ?_⟩⟩⟩, fun e => absurd (by rw [D8.2.1, h1]) e⟩), r2.tr L.1, L.2⟩
        rw [kx4] at e4; rw [kx6] at e6; rw [kx7] at e7
        omega
      | true =>
        have hkk : k = 1 ∨ k = 2 ∨ k = 3 ∨ k = 5 ∨ k = 6 ∨ k = 11 := by unfold ktw at ht; rw [decide_eq_true_eq] at ht; exact ht
        obtain ⟨I14, z14, k14, D14⟩ := c_step S (C.r r2) b2 at2
        have go : ∀ c J, ((sK T (q2 T p) = ks k) → ∃ (I22 : Nat → Nat → Int32), Cl mX6_keepSecond [.ref 41] (g, I14, P) none (g, I22, P) ∧ Zt none mX6_readOne 0 0 115 [(0, .ref 41), (1, .int (nI (kC k)))] [] (g, I22, P) (some (.int (zb c))) (g, J, P)) → ((sK T (q2 T p) ≠ ks k) → c = false ∧ J = zU (zU I14 41 4 1) 41 5 (I14 58 4)) → Cl mX6_readOne [.ref 41, .int (nI (kC k))] (g, I, P) (some (.int (zb c))) (g, J, P) := by
          intro c J H1 H2
          have H3 : (sK T (q2 T p) ≠ ks k) → ∃ (w26 : Int32) (I27 : Nat → Nat → Int32), Cl mX6_refuse [.ref 41] (g, I14, P) (some (.int w26)) (g, I27, P) ∧ (w26 = 0 ∨ w26 = 1) ∧ some (Value.int (zb c)) = some (.int w26) ∧ ((g, J, P) : zH) = (g, I27, P) := fun e => by
            obtain ⟨e1, e2⟩ := H2 e
            subst e1 e2
            exact ⟨0, _, c_refuse S Q, Or.inl rfl, rfl, rfl⟩
          refine z0 c J (wX6_readOne_50 ⟨fun _ => ⟨S.k 41 6 (by decide), I2, kF, fun e4 => by (rw [kx4] at e4; omega), fun _ => ⟨fun e6 => by (rw [kx6] at e6; omega), fun _ => ⟨fun e7 => by (rw [kx7] at e7; omega), fun _ => ⟨S.k 41 6 (by decide), 58, Q.p 41 6 58 (by decide), S.k 58 8 (by decide), I14, z14, S.k 41 6 (by decide), 58, Q.p 41 6 58 (by decide), S.k 58 8 (by decide), fun e5 => ⟨fun e => ?_, fun e => ⟨S.k 41 6 (by decide), H3 ?_⟩⟩, fun e5 => ⟨fun e => ?_, fun e => ⟨S.k 41 6 (by decide), H3 ?_⟩⟩⟩⟩⟩⟩, fun e => absurd (by rw [D8.2.1, h1]) e⟩)
          · rw [kx5] at e5
            rw [D14.2.1] at e
            obtain ⟨I22, a1, a2⟩ := H1 (by rw [(nI_10 (by omega) 2 (by decide) 2 rfl).mp e]; unfold ks; rw [if_neg e5])
            exact ⟨S.k 41 6 (by decide), I22, a1, a2⟩
          · rw [kx5] at e5
            rw [D14.2.1] at e
            exact fun e3 => e ((nI_10 (by omega) 2 (by decide) 2 rfl).mpr (by rw [e3]; unfold ks; rw [if_neg e5]))
          · rw [kx5] at e5
            rw [D14.2.1] at e
            obtain ⟨I22, a1, a2⟩ := H1 (by rw [(nI_10 (by omega) 1 (by decide) 1 rfl).mp e]; unfold ks; rw [if_pos e5])
            exact ⟨S.k 41 6 (by decide), I22, a1, a2⟩
          · rw [kx5] at e5
            rw [D14.2.1] at e
            exact fun e3 => e ((nI_10 (by omega) 1 (by decide) 1 rfl).mpr (by rw [e3]; unfold ks; rw [if_pos e5]))
        by_cases h2 : sK T (q2 T p) = ks k
        · obtain ⟨I22, hI22⟩ : ∃ I22, I22 = zU (zU (zU I14 41 13 (I14 58 4)) 41 14 (I14 58 5)) 41 15 (I14 58 6) := ⟨_, rfl⟩
          have kS2 : Cl mX6_keepSecond [.ref 41] (g, I14, P) none (g, I22, P) := by
            refine eX6_keepSecond (wX6_keepSecond_0 ⟨S.k 41 6 (by decide), 58, Q.p 41 6 58 (by decide), S.k 58 8 (by decide), S.k 41 6 (by decide), S.k 41 6 (by decide), 58, Q.p 41 6 58 (by decide), S.k 58 8 (by decide), S.k 41 6 (by decide), S.k 41 6 (by decide), 58, Q.p 41 6 58 (by decide), S.k 58 8 (by decide), S.k 41 6 (by decide), rfl, ?_⟩)
            rw [zU_a (f := I14) (a := 41) (k := 13) (b := 58) (j := 5) _ (by decide), zU_a (a := 41) (k := 14) (b := 58) (j := 6) _ _ (by decide), zU_a (f := I14) (a := 41) (k := 13) (b := 58) (j := 6) _ (by decide), hI22]
          have y3 : ∀ c, c ≠ 41 → I22 c = I14 c := fun c hc => by rw [hI22]; funext j; rw [zU_a _ _ hc, zU_a _ _ hc, zU_a _ _ hc]
          have u3 : ∀ k, k ≠ 13 → k ≠ 14 → k ≠ 15 → I22 41 k = I2 41 k := fun k a b c => by rw [hI22, zU_k _ _ c, zU_k _ _ b, zU_k _ _ a, k14.1 41 (by decide)]
          have r3 : KY I I22 := (r2.tr k14.r).tr (by rw [hI22]; exact ((KY.u _ _).tr (KY.u _ _)).tr (KY.u _ _))
          have R3 : RdC I22 y F := R2.k (fun c c1 c2 => by rw [y3 c (by omega), k14.1 c (by omega)]) (u3 4 (by decide) (by decide) (by decide)) (u3 5 (by decide) (by decide) (by decide))
          obtain ⟨c, J, z, L⟩ := c_r115 (r := q3 T p) (k := k) S Q (C.r r3) hp (by rw [ht]; rfl) (by rw [y3 58 (by decide)]; exact D14.1) h0 hk h1 (fun _ => h2) ⟨by rw [u3 8 (by decide) (by decide) (by decide)]; exact e8, by rw [u3 10 (by decide) (by decide) (by decide)]; exact e10, by rw [u3 11 (by decide) (by decide) (by decide)]; exact e11, fun h => by rw [u3 12 (by decide) (by decide) (by decide)]; exact e12 h, fun _ => ⟨by rw [hI22, zU_k _ _ (by decide), zU_k _ _ (by decide), zU_s]; exact D14.2.2.1, by rw [hI22, zU_k _ _ (by decide), zU_s]; exact D14.2.2.2.1, fun h => by rw [hI22, zU_s]; exact D14.2.2.2.2 h⟩, fun a b => by rw [u3 9 (by decide) (by decide) (by decide), o2 9 (by decide) (by decide) (by decide) (by decide)]; exact h9 a b⟩ R3
          exact ⟨c, J, go c J (fun _ => ⟨I22, kS2, z⟩) (fun e => absurd h2 e), r3.tr L.1, L.2⟩
        · have hl : lF T k p = some (sS T (q2 T p)) := by
            unfold lF
            rw [if_neg h0, if_neg (fun e => e h1), if_pos ht, if_pos h2]
          exact ⟨false, _, go false _ (fun e => absurd e h2) (fun _ => ⟨rfl, rfl⟩), LnE.bad (r2.tr k14.r) D14 hl⟩
    · have hl : lF T k p = some (sS T (q1 T p)) := by
        unfold lF
        rw [if_neg h0, if_pos h1]
      refine ⟨false, _, z0 false _ (wX6_readOne_50 ⟨fun e => ?_, fun _ => ⟨S.k 41 6 (by decide), _, _, c_refuse S Q, Or.inl rfl, rfl, rfl⟩⟩), LnE.bad (r0.tr k8.r) D8 hl⟩
      rw [D8.2.1, nI_eq (by omega) (by omega)] at e
      exact absurd e h1
end CREAD
