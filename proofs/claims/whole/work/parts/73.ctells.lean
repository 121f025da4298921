/-! ===== the class's Reader: the other lines ===== -/
section CTELLS
variable {g : zG} {I : Nat → Nat → Int32} {P : Nat → Nat → Option Nat} {T : Tp} {F : FS} {y : PS} {p : Nat}
theorem dle0 {n h : Nat} : decide (0 ≤ n ∧ n ≤ h) = decide (n ≤ h) := decide_eq_decide.mpr ⟨fun e => e.2, fun e => ⟨Nat.zero_le _, e⟩⟩
theorem c_tellFollows (S : Sg g) (Q : Sp P) (hp : p ≤ T.1) (R : RdC I y F) (D : FsD T I 2 p) (h : lF T 2 p = none) : ∃ J, Cl mX6_tellFollows [.ref 41] (g, I, P) none (g, J, P) ∧ KD I J ∧ FtC J (tF T 2 p y F) ∧ ((tF T 2 p y F).1 = 0 → DatC J (tY T 2 p y)) := by
  obtain ⟨-, k1, k2, -⟩ := lF_n h
  obtain ⟨k2, k3⟩ := k2 rfl
  have k1 : sK T (q1 T p) = 2 := k1
  have k2 : sK T (q2 T p) = 2 := k2
  have b1 : q1 T p ≤ T.1 := (sE_b hp).2.1
  have b2 : q2 T p ≤ T.1 := (sE_b b1).2.1
  obtain ⟨Ft, Rd⟩ := R
  obtain ⟨D8, D10, D11, D12, Dtw, -⟩ := D
  obtain ⟨D13, D14, D15⟩ := Dtw rfl
  have D15 := D15 k2
  have D12 := D12 k1
  have na := sN_le b1 k1
  have nb := sN_le b2 k2
  obtain ⟨I1, z1, m1, f1⟩ := c_needNumber (g := g) (P := P) (q := sS T (q1 T p)) (n := sN T (q1 T p)) (lo := 0) (hi := 9) S Ft (by omega) (by decide) (by decide)
  obtain ⟨I4, z4, m4, f4⟩ := c_needNumber (g := g) (P := P) (q := sS T (q2 T p)) (n := sN T (q2 T p)) (lo := 0) (hi := 9) S f1 (by omega) (by decide) (by decide)
  rw [dle0, dle0] at f4
  have n := m1.tr m4
  have v : ∀ k, k ≠ 4 → k ≠ 5 → I4 41 k = I 41 k := n.2
  obtain ⟨K, hK⟩ : ∃ K, K = zU I4 42 2 1 := ⟨_, rfl⟩
  have K41 : ∀ k, K 41 k = I4 41 k := fun k => by rw [hK, zU_a _ _ (by decide)]
  obtain ⟨w22, zg, hg⟩ := c_gotT (g := g) (I := K) (P := P) (a := 45) (n := 10) (x := nI (sN T (q1 T p))) (S.k 45 13 (by decide)) (S.l 45 10 (by decide)) (by decide)
  obtain ⟨w25, zb', hb'⟩ := c_bitT (g := g) (I := K) (P := P) (k := sN T (q2 T p)) (by omega)
  obtain ⟨I28, z28, a1, a2⟩ := c_putT (g := g) (I := K) (P := P) (a := 45) (n := 10) (x := nI (sN T (q1 T p))) (v := w22 ||| w25) (S.k 45 13 (by decide)) (S.l 45 10 (by decide)) (by decide)
  have e12 : K 41 12 = nI (sN T (q1 T p)) := by rw [K41, v 12 (by decide) (by decide)]; exact D12
  have e15 : K 41 15 = nI (sN T (q2 T p)) := by rw [K41, v 15 (by decide) (by decide)]; exact D15
  have far : ∀ c, c ≠ 42 → c ≠ 45 → (zU I28 42 3 (zmmax (I28 42 3) (zmmax (I28 41 12) (I28 41 15) + 1))) c = I4 c := fun c c1 c2 => by
    have e : I28 c = I4 c := by rw [a1 c c2, hK]; funext j; rw [zU_a _ _ c1]
    rw [← e]; funext j; rw [zU_a _ _ c1]
  refine ⟨zU I28 42 3 (zmmax (I28 42 3) (zmmax (I28 41 12) (I28 41 15) + 1)), eX6_tellFollows (wX6_tellFollows_0 ⟨S.k 41 6 (by decide), S.k 41 6 (by decide), S.k 41 6 (by decide), _, by rw [D10, D12]; exact z1, S.k 41 6 (by decide), S.k 41 6 (by decide), S.k 41 6 (by decide), _, by rw [m1.2 13 (by decide) (by decide), m1.2 15 (by decide) (by decide), D13, D15]; exact z4, S.k 41 6 (by decide), 42, Q.p 41 0 42 (by decide), S.k 42 3 (by decide), S.k 41 6 (by decide), 42, Q.p 41 0 42 (by decide), S.k 42 3 (by decide), 45, Q.p 42 6 45 (by decide), S.k 41 6 (by decide), S.k 41 6 (by decide), 42, Q.p 41 0 42 (by decide), S.k 42 3 (by decide), 45, Q.p 42 6 45 (by decide), S.k 41 6 (by decide), w22, by rw [← hK, e12]; exact zg, S.k 41 6 (by decide), w25, by rw [← hK, e15]; exact zb', I28, by rw [← hK, e12]; exact z28, S.k 41 6 (by decide), 42, Q.p 41 0 42 (by decide), S.k 41 6 (by decide), 42, Q.p 41 0 42 (by decide), S.k 42 3 (by decide), S.k 41 6 (by decide), S.k 41 6 (by decide), S.k 42 3 (by decide), rfl, rfl⟩), n.d.tr (KD.of (fun c hc => far c (by omega) (by omega))), ⟨by rw [far 41 (by decide) (by decide)]; exact f4.1, by rw [far 41 (by decide) (by decide)]; exact f4.2⟩, fun hF => ?_⟩
  obtain ⟨t1, t2, -⟩ := nt_0 (by decide) hF
  obtain ⟨t3, t4, -⟩ := nt_0 (by decide) t1
  rw [decide_eq_true_eq] at t2 t4
  obtain ⟨⟨H, HB, HF, HC, HL, HG⟩, Y⟩ := Rd t3
  have hf := Y.2.1
  have x42 : ∀ k, I4 42 k = I 42 k := fun k => by rw [n.1 42 (by decide)]
  have i42 : ∀ k, I28 42 k = if k = 2 then 1 else I 42 k := fun k => by
    rw [a1 42 (by decide), hK]
    by_cases e : k = 2
    · subst e; rw [zU_s, if_pos rfl]
    · rw [zU_k _ _ e, if_neg e, x42]
  have i41 : ∀ k, I28 41 k = I4 41 k := fun k => by rw [a1 41 (by decide), K41]
  have foll : ∀ w, w < 10 → I28 45 w = upf (hB (yH y)) (sN T (q1 T p)) (hB (yH y) (sN T (q1 T p)) ||| bitI (sN T (q2 T p))) w := fun w hw => by
    have k45 : ∀ j, K 45 j = I 45 j := fun j => by rw [hK, zU_a _ _ (by decide), n.1 45 (by decide)]
    rw [a2 _ rfl (by omega) w, hg _ rfl (by omega), hb' (by omega), k45, k45, HB _ (by omega)]
    by_cases e : w = sN T (q1 T p)
    · rw [if_pos e, e, upf_s]
    · rw [if_neg e, upf_n _ _ e]; exact HB w hw
  refine ⟨⟨?_, ?_, ?_, fun w hw => ?_, fun w hw => ?_, fun w hw => ?_, fun w i hw hi => ?_, fun q hq => ?_⟩, fun w hw => ?_, ?_, HC.keep (fun j hj => ?_), HL.keep (fun j hj => ?_), HG.keep (fun j hj => ?_)⟩
  · rw [zU_k _ _ (by decide), i42]; exact H.1
  · rw [zU_k _ _ (by decide), i42]; exact H.2.1
  · rw [zU_k _ _ (by decide), i42]; rfl
  · rw [far _ (by decide) (by decide), n.1 _ (by decide)]; exact H.2.2.2.1 w hw
  · rw [far _ (by decide) (by decide), n.1 _ (by decide)]; exact H.2.2.2.2.1 w hw
  · rw [zU_a _ _ (by decide)]; exact foll w (by have : w < hN (yH y) := hw; have := Y.1.2.1; omega)
  · rw [far _ (by decide) (by decide), n.1 _ (by decide)]; exact H.2.2.2.2.2.2.1 w i hw hi
  · rw [far _ (by decide) (by decide), n.1 _ (by decide)]; exact H.2.2.2.2.2.2.2 q hq
  · rw [zU_a _ _ (by decide)]; exact foll w hw
  · rw [zU_s, i42, if_neg (by decide), HF, i41, i41, v 12 (by decide) (by decide), v 15 (by decide) (by decide), D12, D15, zmmax_n (by omega) (by omega), nI_1, zmmax_n (by omega) (by omega)]; rfl
  · rw [far _ (by omega) (by omega), n.1 _ (by omega)]
  · rw [far _ (by omega) (by omega), n.1 _ (by omega)]
  · rw [far _ (by omega) (by omega), n.1 _ (by omega)]
theorem c_tellAsks (S : Sg g) (Q : Sp P) (hp : p ≤ T.1) (R : RdC I y F) (D : FsD T I 3 p) (h : lF T 3 p = none) : ∃ J, Cl mX6_tellAsks [.ref 41] (g, I, P) none (g, J, P) ∧ KD I J ∧ FtC J (tF T 3 p y F) ∧ ((tF T 3 p y F).1 = 0 → DatC J (tY T 3 p y)) := by
  obtain ⟨-, k1, k2, -⟩ := lF_n h
  obtain ⟨k2, k3⟩ := k2 rfl
  have k1 : sK T (q1 T p) = 2 := k1
  have k2 : sK T (q2 T p) = 2 := k2
  have b1 : q1 T p ≤ T.1 := (sE_b hp).2.1
  have b2 : q2 T p ≤ T.1 := (sE_b b1).2.1
  obtain ⟨Ft, Rd⟩ := R
  obtain ⟨D8, D10, D11, D12, Dtw, -⟩ := D
  obtain ⟨D13, D14, D15⟩ := Dtw rfl
  have D15 := D15 k2
  have D12 := D12 k1
  have na := sN_le b1 k1
  have nb := sN_le b2 k2
  obtain ⟨I1, z1, m1, f1⟩ := c_needNumber (g := g) (P := P) (q := sS T (q1 T p)) (n := sN T (q1 T p)) (lo := 0) (hi := 5) S Ft (by omega) (by decide) (by decide)
  obtain ⟨I4, z4, m4, f4⟩ := c_needNumber (g := g) (P := P) (q := sS T (q2 T p)) (n := sN T (q2 T p)) (lo := 0) (hi := 9) S f1 (by omega) (by decide) (by decide)
  rw [dle0, dle0] at f4
  have n := m1.tr m4
  have v : ∀ k, k ≠ 4 → k ≠ 5 → I4 41 k = I 41 k := n.2
  obtain ⟨w22, zg, hg⟩ := c_gotT (g := g) (I := I4) (P := P) (a := 47) (n := 6) (x := nI (sN T (q1 T p))) (S.k 47 13 (by decide)) (S.l 47 6 (by decide)) (by decide)
  obtain ⟨w25, zb', hb'⟩ := c_bitT (g := g) (I := I4) (P := P) (k := sN T (q2 T p)) (by omega)
  obtain ⟨I28, z28, a1, a2⟩ := c_putT (g := g) (I := I4) (P := P) (a := 47) (n := 6) (x := nI (sN T (q1 T p))) (v := w22 ||| w25) (S.k 47 13 (by decide)) (S.l 47 6 (by decide)) (by decide)
  have e12 : I4 41 12 = nI (sN T (q1 T p)) := by rw [v 12 (by decide) (by decide)]; exact D12
  have e15 : I4 41 15 = nI (sN T (q2 T p)) := by rw [v 15 (by decide) (by decide)]; exact D15
  have far : ∀ c, c ≠ 42 → c ≠ 47 → (zU I28 42 3 (zmmax (I28 42 3) (I28 41 15 + 1))) c = I4 c := fun c c1 c2 => by
    rw [← a1 c c2]; funext j; rw [zU_a _ _ c1]
  refine ⟨zU I28 42 3 (zmmax (I28 42 3) (I28 41 15 + 1)), eX6_tellAsks (wX6_tellAsks_0 ⟨S.k 41 6 (by decide), S.k 41 6 (by decide), S.k 41 6 (by decide), _, by rw [D10, D12]; exact z1, S.k 41 6 (by decide), S.k 41 6 (by decide), S.k 41 6 (by decide), _, by rw [m1.2 13 (by decide) (by decide), m1.2 15 (by decide) (by decide), D13, D15]; exact z4, S.k 41 6 (by decide), 42, Q.p 41 0 42 (by decide), S.k 42 3 (by decide), 47, Q.p 42 8 47 (by decide), S.k 41 6 (by decide), S.k 41 6 (by decide), 42, Q.p 41 0 42 (by decide), S.k 42 3 (by decide), 47, Q.p 42 8 47 (by decide), S.k 41 6 (by decide), w22, by rw [e12]; exact zg, S.k 41 6 (by decide), w25, by rw [e15]; exact zb', I28, by rw [e12]; exact z28, S.k 41 6 (by decide), 42, Q.p 41 0 42 (by decide), S.k 41 6 (by decide), 42, Q.p 41 0 42 (by decide), S.k 42 3 (by decide), S.k 41 6 (by decide), S.k 42 3 (by decide), rfl, rfl⟩), n.d.tr (KD.of (fun c hc => far c (by omega) (by omega))), ⟨by rw [far 41 (by decide) (by decide)]; exact f4.1, by rw [far 41 (by decide) (by decide)]; exact f4.2⟩, fun hF => ?_⟩
  obtain ⟨t1, t2, -⟩ := nt_0 (by decide) hF
  obtain ⟨t3, t4, -⟩ := nt_0 (by decide) t1
  rw [decide_eq_true_eq] at t2 t4
  obtain ⟨⟨H, HB, HF, HC, HL, HG⟩, Y⟩ := Rd t3
  have hf := Y.2.1
  have i42 : ∀ k, I28 42 k = I 42 k := fun k => by rw [a1 42 (by decide), n.1 42 (by decide)]
  refine ⟨⟨?_, ?_, ?_, fun w hw => ?_, fun w hw => ?_, fun w hw => ?_, fun w i hw hi => ?_, fun q hq => ?_⟩, fun w hw => ?_, ?_, HC.keep (fun j hj => ?_), HL.keep (fun j hj => ?_), HG.keep (fun j hj => ?_)⟩
  · rw [zU_k _ _ (by decide), i42]; exact H.1
  · rw [zU_k _ _ (by decide), i42]; exact H.2.1
  · rw [zU_k _ _ (by decide), i42]; exact H.2.2.1
  · rw [far _ (by decide) (by decide), n.1 _ (by decide)]; exact H.2.2.2.1 w hw
  · rw [far _ (by decide) (by decide), n.1 _ (by decide)]; exact H.2.2.2.2.1 w hw
  · rw [far _ (by decide) (by decide), n.1 _ (by decide)]; exact H.2.2.2.2.2.1 w hw
  · rw [far _ (by decide) (by decide), n.1 _ (by decide)]; exact H.2.2.2.2.2.2.1 w i hw hi
  · rw [zU_a _ _ (by decide)]
    show I28 47 q = upf (hA (yH y)) (sN T (q1 T p)) (hA (yH y) (sN T (q1 T p)) ||| bitI (sN T (q2 T p))) q
    rw [a2 _ rfl (by omega) q, hg _ rfl (by omega), hb' (by omega), n.1 47 (by decide), H.2.2.2.2.2.2.2 _ (by omega)]
    by_cases e : q = sN T (q1 T p)
    · rw [if_pos e, e, upf_s]
    · rw [if_neg e, upf_n _ _ e]; exact H.2.2.2.2.2.2.2 q hq
  · rw [far _ (by decide) (by decide), n.1 _ (by decide)]; exact HB w hw
  · rw [zU_s, i42, HF, a1 41 (by decide), e15, nI_1, zmmax_n (by omega) (by omega)]; rfl
  · rw [far _ (by omega) (by omega), n.1 _ (by omega)]
  · rw [far _ (by omega) (by omega), n.1 _ (by omega)]
  · rw [far _ (by omega) (by omega), n.1 _ (by omega)]
theorem c_tellStones (S : Sg g) (Q : Sp P) (hp : p ≤ T.1) (R : RdC I y F) (D : FsD T I 4 p) (h : lF T 4 p = none) : ∃ J, Cl mX6_tellStones [.ref 41] (g, I, P) none (g, J, P) ∧ KD I J ∧ FtC J (tF T 4 p y F) ∧ ((tF T 4 p y F).1 = 0 → DatC J (tY T 4 p y)) := by
  obtain ⟨-, k1, -, -⟩ := lF_n h
  have k1 : sK T (q1 T p) = 2 := k1
  have b1 : q1 T p ≤ T.1 := (sE_b hp).2.1
  obtain ⟨Ft, Rd⟩ := R
  obtain ⟨D8, D10, D11, D12, -, -⟩ := D
  have D12 := D12 k1
  have na := sN_le b1 k1
  obtain ⟨I1, z1, n, f1⟩ := c_needNumber (g := g) (P := P) (q := sS T (q1 T p)) (n := sN T (q1 T p)) (lo := 1) (hi := 4) S Ft (by omega) (by decide) (by decide)
  have far : ∀ c, c ≠ 42 → (zU I1 42 0 (I1 41 12)) c = I1 c := fun c c1 => by funext j; rw [zU_a _ _ c1]
  refine ⟨zU I1 42 0 (I1 41 12), eX6_tellStones (wX6_tellStones_0 ⟨S.k 41 6 (by decide), S.k 41 6 (by decide), S.k 41 6 (by decide), _, by rw [D10, D12]; exact z1, S.k 41 6 (by decide), 42, Q.p 41 0 42 (by decide), S.k 41 6 (by decide), S.k 42 3 (by decide), rfl, rfl⟩), n.d.tr (KD.of (fun c hc => far c (by omega))), ⟨by rw [far 41 (by decide)]; exact f1.1, by rw [far 41 (by decide)]; exact f1.2⟩, fun hF => ?_⟩
  obtain ⟨t1, t2, -⟩ := nt_0 (by decide) hF
  obtain ⟨⟨H, HB, HF, HC, HL, HG⟩, Y⟩ := Rd t1
  have i42 : ∀ k, k ≠ 0 → (zU I1 42 0 (I1 41 12)) 42 k = I 42 k := fun k hk => by rw [zU_k _ _ hk, n.1 42 (by decide)]
  refine ⟨⟨?_, ?_, ?_, fun w hw => ?_, fun w hw => ?_, fun w hw => ?_, fun w i hw hi => ?_, fun q hq => ?_⟩, fun w hw => ?_, ?_, HC.keep (fun j hj => ?_), HL.keep (fun j hj => ?_), HG.keep (fun j hj => ?_)⟩
  · rw [zU_s, n.2 12 (by decide) (by decide)]; exact D12
  · rw [i42 1 (by decide)]; exact H.2.1
  · rw [i42 2 (by decide)]; exact H.2.2.1
  · rw [far _ (by decide), n.1 _ (by decide)]; exact H.2.2.2.1 w hw
  · rw [far _ (by decide), n.1 _ (by decide)]; exact H.2.2.2.2.1 w hw
  · rw [far _ (by decide), n.1 _ (by decide)]; exact H.2.2.2.2.2.1 w hw
  · rw [far _ (by decide), n.1 _ (by decide)]; exact H.2.2.2.2.2.2.1 w i hw hi
  · rw [far _ (by decide), n.1 _ (by decide)]; exact H.2.2.2.2.2.2.2 q hq
  · rw [far _ (by decide), n.1 _ (by decide)]; exact HB w hw
  · rw [i42 3 (by decide)]; exact HF
  · rw [far _ (by omega), n.1 _ (by omega)]
  · rw [far _ (by omega), n.1 _ (by omega)]
  · rw [far _ (by omega), n.1 _ (by omega)]
/-- of a hill nothing has changed -/
theorem HlD.all {J : Nat → Nat → Int32} {d : HD} (h : HlD I 42 d) (hB' : ∀ w, w < 10 → I 45 w = hB d w) (hF : ∀ c, 42 ≤ c → c ≤ 47 → J c = I c) : HlD J 42 d ∧ (∀ w, w < 10 → J 45 w = hB d w) := ⟨h.keep (fun j hj => hF _ (by omega) (by omega)), fun w hw => by rw [hF 45 (by decide) (by decide)]; exact hB' w hw⟩
theorem c_tellDeed {k : Nat} (S : Sg g) (Q : Sp P) (C : TpC I P T) (hp : p ≤ T.1) (R : RdC I y F) (k5 : 5 ≤ k) (k9 : k ≤ 9) (D : FsD T I k p) (h : lF T k p = none) : ∃ J, Cl mX6_tellDeed [.ref 41, .int (zb (decide (k ≤ 6)))] (g, I, P) none (g, J, P) ∧ KD I J ∧ FtC J (tF T k p y F) ∧ ((tF T k p y F).1 = 0 → DatC J (tY T k p y)) := by
  obtain ⟨-, k1, k2, -⟩ := lF_n h
  have k1 : sK T (q1 T p) = 2 := by rw [k1]; unfold kf; rw [if_neg (by omega)]
  have b1 : q1 T p ≤ T.1 := (sE_b hp).2.1
  have b2 : q2 T p ≤ T.1 := (sE_b b1).2.1
  have h6 := C.2.2.1
  obtain ⟨Ft, Rd⟩ := R
  obtain ⟨D8, D10, D11, D12, Dtw, D9⟩ := D
  have D9 := D9 k5 k9
  have D12 := D12 k1
  have na := sN_le b1 k1
  obtain ⟨I5, z5, m5, f5⟩ := c_needRoom (g := g) (P := P) (x := I 48 0) (z := 40) S Ft D8
  obtain ⟨I8, z8, m8, f8⟩ := c_needNumber (g := g) (P := P) (q := sS T (q1 T p)) (n := sN T (q1 T p)) (lo := 0) (hi := 3) S f5 (by omega) (by decide) (by decide)
  rw [dle0] at f8
  -- the checks behind
  have chk : ∃ K, Kn I K ∧ FtC K (tF T k p y F) ∧ (∀ J, Zt none mX6_tellDeed 0 0 45 [(0, .ref 41), (1, .int (zb (decide (k ≤ 6)))), (2, .int (zb (decide (I 48 0 < 40))))] [] (g, K, P) none (g, J, P) → Cl mX6_tellDeed [.ref 41, .int (zb (decide (k ≤ 6)))] (g, I, P) none (g, J, P)) := by
    have eF : ∀ c, nt (nt F (decide (I 48 0 < 40)) 3 (sS T p)) c 2 (sS T (q1 T p)) = nt (nt F (decide ((yC y).1 < 40)) 3 (sS T p)) c 2 (sS T (q1 T p)) := by
      intro c
      by_cases h0 : F.1 = 0
      · rw [(Rd h0).1.2.2.2.1.1, show decide (nI (yC y).1 < 40) = decide ((yC y).1 < 40) from decide_eq_decide.mpr (nI_ltI (b := 40) (by have := (Rd h0).2.2.2.2.2.1.1; omega) (by decide))]
      · simp only [nt_n h0]
    by_cases hk : k ≤ 6
    · have kt : ktw k = true := by unfold ktw; exact decide_eq_true (by omega)
      obtain ⟨k2, k3⟩ := k2 kt
      have k2 : sK T (q2 T p) = 1 := by rw [k2]; unfold ks; rw [if_pos (by omega)]
      obtain ⟨D13, D14, -⟩ := Dtw kt
      obtain ⟨I13, z13, m13, f13⟩ := c_needRow (g := g) (r := q2 T p) (most := 1) S (C.kn (m5.tr m8)) f8 b2 (by decide)
      refine ⟨I13, (m5.tr m8).tr m13, ?_, fun J z => eX6_tellDeed (wX6_tellDeed_0 ⟨S.k 41 6 (by decide), 48, Q.p 41 1 48 (by decide), S.k 48 0 (by decide), S.k 41 6 (by decide), _, _, z5, S.k 41 6 (by decide), S.k 41 6 (by decide), S.k 41 6 (by decide), _, by rw [m5.2 10 (by decide) (by decide), m5.2 12 (by decide) (by decide), D10, D12]; exact z8, fun e => ?_, fun _ => ⟨S.k 41 6 (by decide), S.k 41 6 (by decide), S.k 41 6 (by decide), _, by rw [(m5.tr m8).2 13 (by decide) (by decide), (m5.tr m8).2 14 (by decide) (by decide), D13, D14]; exact z13, z⟩⟩)⟩
      · have : tF T k p y F = nt (nt (nt F (decide ((yC y).1 < 40)) 3 (sS T p)) (decide (sN T (q1 T p) ≤ 3)) 2 (sS T (q1 T p))) (rowOk T (q2 T p) 1) 2 (sS T (q2 T p)) := by
          unfold tF
          rw [if_neg (by omega), if_neg (by omega), if_neg (by omega), if_neg (by omega), if_pos hk]
        rw [this, ← eF]; exact f13
      · rw [decide_eq_true hk] at e; exact absurd e (by decide)
    · refine ⟨I8, m5.tr m8, ?_, fun J z => eX6_tellDeed (wX6_tellDeed_0 ⟨S.k 41 6 (by decide), 48, Q.p 41 1 48 (by decide), S.k 48 0 (by decide), S.k 41 6 (by decide), _, _, z5, S.k 41 6 (by decide), S.k 41 6 (by decide), S.k 41 6 (by decide), _, by rw [m5.2 10 (by decide) (by decide), m5.2 12 (by decide) (by decide), D10, D12]; exact z8, fun _ => z, fun e => ?_⟩)⟩
      · have : tF T k p y F = nt (nt F (decide ((yC y).1 < 40)) 3 (sS T p)) (decide (sN T (q1 T p) ≤ 3)) 2 (sS T (q1 T p)) := by
          unfold tF
          rw [if_neg (by omega), if_neg (by omega), if_neg (by omega), if_neg (by omega), if_neg hk, if_pos k9]
        rw [this, ← eF]; exact f8
      · rw [decide_eq_false hk] at e; exact absurd rfl e
  obtain ⟨K, n, fK, head⟩ := chk
  have v : ∀ k, k ≠ 4 → k ≠ 5 → K 41 k = I 41 k := n.2
  have tY0 : tY T k p y = (yH y, yF y, yDeed T k p (yC y), yL y, yG y) := by
    unfold tY
    rw [if_neg (by omega), if_neg (by omega), if_neg (by omega), if_neg (by omega), if_pos k9]
  have t0 : (tF T k p y F).1 = 0 → F.1 = 0 ∧ (yC y).1 < 40 ∧ sN T (q1 T p) ≤ 3 ∧ (k ≤ 6 → rowOk T (q2 T p) 1 = true) := by
    intro hF
    unfold tF at hF
    rw [if_neg (by omega), if_neg (by omega), if_neg (by omega), if_neg (by omega)] at hF
    by_cases hk : k ≤ 6
    · rw [if_pos hk] at hF
      obtain ⟨t1, t2, -⟩ := nt_0 (by decide) hF
      obtain ⟨t3, t4, -⟩ := nt_0 (by decide) t1
      obtain ⟨t5, t6, -⟩ := nt_0 (by decide) t3
      rw [decide_eq_true_eq] at t4 t6
      exact ⟨t5, t6, t4, fun _ => t2⟩
    · rw [if_neg hk, if_pos k9] at hF
      obtain ⟨t1, t2, -⟩ := nt_0 (by decide) hF
      obtain ⟨t3, t4, -⟩ := nt_0 (by decide) t1
      rw [decide_eq_true_eq] at t4 t2
      exact ⟨t3, t4, t2, fun e => absurd e hk⟩
  by_cases hr : I 48 0 < 40
  · obtain ⟨I11, z11, a1, a2⟩ := c_putT (g := g) (I := K) (P := P) (a := 49) (n := 40) (x := K 48 0) (v := K 41 9) (S.k 49 13 (by decide)) (S.l 49 40 (by decide)) (by decide)
    obtain ⟨I23, z23, c1, c2⟩ := c_putT (g := g) (I := I11) (P := P) (a := 50) (n := 40) (x := I11 48 0) (v := I11 41 12) (S.k 50 13 (by decide)) (S.l 50 40 (by decide)) (by decide)
    have m : ∀ c, c ≠ 49 → c ≠ 50 → I23 c = K c := fun c x1 x2 => by rw [c1 c x2, a1 c x1]
    have CK : TpC I23 P T := (C.kn n).n (by rw [m 2 (by decide) (by decide)]) (by rw [m 58 (by decide) (by decide)])
    -- the letter
    have lett : ∃ x, (k ≤ 6 → Cl mX6_letterAt [.ref 41, .int (I23 41 13)] (g, I23, P) (some (.int x)) (g, I23, P)) ∧ x = (if k ≤ 6 then nI (lts T (q2 T p) 0) else -1) := by
      refine ⟨_, fun hk => ?_, rfl⟩
      have kt : ktw k = true := by unfold ktw; exact decide_eq_true (by omega)
      obtain ⟨k2, k3⟩ := k2 kt
      have k2 : sK T (q2 T p) = 1 := by rw [k2]; unfold ks; rw [if_pos (by omega)]
      have g0 := sK_g (p := q2 T p) b2 (by omega)
      have hl := sK_1 (p := q2 T p) b2 k2 0 (by omega)
      rw [if_pos hk, m 41 (by decide) (by decide), v 13 (by decide) (by decide), (Dtw kt).1]
      have := c_letterAt (g := g) (k := sS T (q2 T p)) S CK g0.2.1 hl.1
      exact this
    obtain ⟨x, lx, ex⟩ := lett
    obtain ⟨I36, z36, d1, d2⟩ := c_putT (g := g) (I := I23) (P := P) (a := 51) (n := 40) (x := I23 48 0) (v := x) (S.k 51 13 (by decide)) (S.l 51 40 (by decide)) (by decide)
    have far : ∀ c, c ≠ 48 → c ≠ 49 → c ≠ 50 → c ≠ 51 → (zU I36 48 0 (I36 48 0 + 1)) c = K c := fun c x0 x1 x2 x3 => by
      have e : I36 c = K c := by rw [d1 c x3, m c x1 x2]
      rw [← e]; funext j; rw [zU_a _ _ x0]
    refine ⟨zU I36 48 0 (I36 48 0 + 1), head _ (wX6_tellDeed_45 ⟨fun _ => ⟨S.k 41 6 (by decide), 48, Q.p 41 1 48 (by decide), S.k 48 0 (by decide), 49, Q.p 48 1 49 (by decide), S.k 41 6 (by decide), 48, Q.p 41 1 48 (by decide), S.k 48 0 (by decide), S.k 41 6 (by decide), I11, z11, S.k 41 6 (by decide), 48, Q.p 41 1 48 (by decide), S.k 48 0 (by decide), 50, Q.p 48 2 50 (by decide), S.k 41 6 (by decide), 48, Q.p 41 1 48 (by decide), S.k 48 0 (by decide), S.k 41 6 (by decide), I23, z23, S.k 41 6 (by decide), 48, Q.p 41 1 48 (by decide), S.k 48 0 (by decide), 51, Q.p 48 3 51 (by decide), S.k 41 6 (by decide), 48, Q.p 41 1 48 (by decide), S.k 48 0 (by decide), fun e => ⟨I36, ?_, S.k 41 6 (by decide), 48, Q.p 41 1 48 (by decide), S.k 48 0 (by decide), S.k 48 0 (by decide), rfl, rfl⟩, fun e => ⟨S.k 41 6 (by decide), S.k 41 6 (by decide), x, lx ?_, I36, z36, S.k 41 6 (by decide), 48, Q.p 41 1 48 (by decide), S.k 48 0 (by decide), S.k 48 0 (by decide), rfl, rfl⟩⟩, fun e => by rw [decide_eq_true hr] at e; cases e⟩), n.d.tr (KD.of (fun c hc => far c (by omega) (by omega) (by omega) (by omega))), ⟨by rw [far 41 (by decide) (by decide) (by decide) (by decide)]; exact fK.1, by rw [far 41 (by decide) (by decide) (by decide) (by decide)]; exact fK.2⟩, fun hF => ?_⟩
    · rw [zb_eq, decide_eq_false_iff_not] at e
      rw [ex, if_neg e] at z36
      exact z36
    · rw [← ne_eq, zb_ne, decide_eq_true_eq] at e; exact e
    · obtain ⟨t1, t2, t3, t4⟩ := t0 hF
      obtain ⟨⟨H, HB, HF, HC, HL, HG⟩, Y⟩ := Rd t1
      have e48 : K 48 0 = nI (yC y).1 := by rw [n.1 48 (by decide)]; exact HC.1
      have f48 : I11 48 0 = nI (yC y).1 := by rw [a1 48 (by decide)]; exact e48
      have g48 : I23 48 0 = nI (yC y).1 := by rw [c1 48 (by decide)]; exact f48
      have a2 := a2 _ e48 t2
      have c2 := c2 _ f48 t2
      have d2 := d2 _ g48 t2
      rw [tY0]
      obtain ⟨h1, h2⟩ := HlD.all H HB (J := zU I36 48 0 (I36 48 0 + 1)) (fun c c1 c2 => by rw [far c (by omega) (by omega) (by omega) (by omega), n.1 c (by omega)])
      refine ⟨h1, h2, by rw [far 42 (by decide) (by decide) (by decide) (by decide), n.1 42 (by decide)]; exact HF, ⟨?_, fun i hi => ?_⟩, HL.keep (fun j hj => by rw [far _ (by omega) (by omega) (by omega) (by omega), n.1 _ (by omega)]), HG.keep (fun j hj => by rw [far _ (by omega) (by omega) (by omega) (by omega), n.1 _ (by omega)])⟩
      · rw [zU_s, d1 48 (by decide), g48, nI_1]; rfl
      · have hi : i < (yC y).1 + 1 := hi
        show (zU I36 48 0 (I36 48 0 + 1)) 49 i = nI (upf (yC y).2.1 (yC y).1 (k - 5) i) ∧ (zU I36 48 0 (I36 48 0 + 1)) 50 i = nI (upf (yC y).2.2.1 (yC y).1 (sN T (q1 T p)) i) ∧ (zU I36 48 0 (I36 48 0 + 1)) 51 i = upf (yC y).2.2.2 (yC y).1 (if k ≤ 6 then nI (lts T (q2 T p) 0) else -1) i
        rw [zU_a _ _ (by decide), zU_a _ _ (by decide), zU_a _ _ (by decide), d1 49 (by decide), c1 49 (by decide), d1 50 (by decide), a2 i, c2 i, d2 i]
        by_cases e : i = (yC y).1
        · rw [if_pos e, if_pos e, if_pos e, e, upf_s, upf_s, upf_s, v 9 (by decide) (by decide), D9, a1 41 (by decide), v 12 (by decide) (by decide), D12, ex]
          exact ⟨rfl, rfl, rfl⟩
        · rw [if_neg e, if_neg e, if_neg e, upf_n _ _ e, upf_n _ _ e, upf_n _ _ e, n.1 49 (by decide), a1 50 (by decide), n.1 50 (by decide), m 51 (by decide) (by decide), n.1 51 (by decide)]
          exact HC.2 i (by omega)
  · refine ⟨K, head K (wX6_tellDeed_45 ⟨fun e => by rw [decide_eq_false hr] at e; exact absurd rfl e, fun _ => ⟨rfl, rfl⟩⟩), n.d, fK, fun hF => ?_⟩
    exfalso
    obtain ⟨t1, t2, -⟩ := t0 hF
    rw [(Rd t1).1.2.2.2.1.1] at hr
    exact hr (nI_lt (b := 40) t2 (by decide))
theorem c_lineLoop {s z : Nat} {x : Int32} (S : Sg g) (Q : Sp P) (C : TpC I P T) (hz : s + z ≤ T.1) (hL : ∀ i, i < z → 97 ≤ T.2 (s + i)) : ∀ m i (K : Nat → Nat → Int32), i + m = min z 12 → K 2 = I 2 → K 58 = I 58 → K 41 10 = nI s → K 41 11 = nI z → K 52 0 = x → ∃ J, Zt none mX6_tellLine 0 0 61 [(0, .ref 41), (2, .int (nI i))] [] (g, K, P) none (g, J, P) ∧ (∀ c, c ≠ 52 → c ≠ 54 → J c = K c) ∧ J 52 0 = x + 1 ∧ ∀ w, x = nI w → w < 6 → ∀ j, J 54 j = if 12 * w + i ≤ j ∧ j < 12 * w + min z 12 then nI (T.2 (s + (j - 12 * w)) - 97) else K 54 j := by
  have h6 := C.2.2.1
  intro m
  induction m with
  | zero =>
    intro i K hi k2 k58 k10 k11 kx
    have hi : i = min z 12 := hi
    refine ⟨zU K 52 0 (K 52 0 + 1), wX6_tellLine_61 ⟨S.k 41 6 (by decide), fun _ => ⟨S.k 41 6 (by decide), 52, Q.p 41 2 52 (by decide), S.k 52 4 (by decide), S.k 52 4 (by decide), rfl, rfl⟩, fun e => ⟨fun _ => ⟨S.k 41 6 (by decide), 52, Q.p 41 2 52 (by decide), S.k 52 4 (by decide), S.k 52 4 (by decide), rfl, rfl⟩, fun e2 => ?_⟩⟩, fun c c1 c2 => by funext j; rw [zU_a _ _ c1], by rw [zU_s, kx], fun w hw hw10 j => ?_⟩
    · rw [k11, nI_leI (by omega) (by omega)] at e
      rw [show (12 : Int32) = nI 12 from rfl, nI_leI (by decide) (by omega)] at e2
      omega
    · rw [zU_a _ _ (by decide), if_neg (by omega)]
  | succ m ih =>
    intro i K hi k2 k58 k10 k11 kx
    have CK : TpC K P T := C.n k2 k58
    obtain ⟨K1, z1, a1, a2⟩ := c_putT (g := g) (I := K) (P := P) (a := 54) (n := 72) (x := K 52 0 * 12 + nI i) (v := nI (T.2 (s + i) - 97)) (S.k 54 13 (by decide)) (S.l 54 72 (by decide)) (by decide)
    obtain ⟨J, z2, b1, b3, b4⟩ := ih (i + 1) K1 (by omega) (by rw [a1 2 (by decide), k2]) (by rw [a1 58 (by decide), k58]) (by rw [a1 41 (by decide)]; exact k10) (by rw [a1 41 (by decide)]; exact k11) (by rw [a1 52 (by decide)]; exact kx)
    refine ⟨J, wX6_tellLine_61 ⟨S.k 41 6 (by decide), fun e => ?_, fun _ => ⟨fun e => absurd e (nI_ge (b := 12) (by omega) (by decide)), fun _ => ⟨S.k 41 6 (by decide), 52, Q.p 41 2 52 (by decide), S.k 52 4 (by decide), 54, Q.p 52 2 54 (by decide), S.k 41 6 (by decide), 52, Q.p 41 2 52 (by decide), S.k 52 4 (by decide), S.k 41 6 (by decide), S.k 41 6 (by decide), _, by rw [k10, nI_add]; exact c_letterAt S CK (by omega) (hL i (by omega)), _, z1, by rw [nI_1]; exact z2⟩⟩⟩, fun c c1 c2 => by rw [b1 c c1 c2, a1 c c2], b3, fun w hw hw10 j => ?_⟩
    · rw [k11] at e; exact absurd e (nI_ge (by omega) (by omega))
    · rw [b4 w hw hw10 j, a2 (12 * w + i) (by rw [kx, hw, show (12 : Int32) = nI 12 from rfl, pk_mul, nI_add, Nat.mul_comm]) (by omega) j]
      by_cases e : j = 12 * w + i
      · subst e
        rw [if_neg (by omega), if_pos rfl, if_pos (by omega), show 12 * w + i - 12 * w = i by omega]
      · rw [if_neg e]
        by_cases e2 : 12 * w + (i + 1) ≤ j ∧ j < 12 * w + min z 12
        · rw [if_pos e2, if_pos (by omega)]
        · rw [if_neg e2, if_neg (by omega)]
theorem c_tellLine (S : Sg g) (Q : Sp P) (C : TpC I P T) (hp : p ≤ T.1) (R : RdC I y F) (D : FsD T I 10 p) (h : lF T 10 p = none) : ∃ J, Cl mX6_tellLine [.ref 41] (g, I, P) none (g, J, P) ∧ KD I J ∧ FtC J (tF T 10 p y F) ∧ ((tF T 10 p y F).1 = 0 → DatC J (tY T 10 p y)) := by
  obtain ⟨-, k1, -, -⟩ := lF_n h
  have k1 : sK T (q1 T p) = 1 := k1
  have b1 : q1 T p ≤ T.1 := (sE_b hp).2.1
  obtain ⟨Ft, Rd⟩ := R
  obtain ⟨D8, D10, D11, -, -, -⟩ := D
  have s1 := sS_b b1
  have e1 := sE_b b1
  have h6 := C.2.2.1
  have hz : sS T (q1 T p) + sZ T (q1 T p) ≤ T.1 := by unfold sZ; omega
  have hLt := sK_1 b1 k1
  obtain ⟨I5, z5, n5, f5⟩ := c_needRoom (g := g) (P := P) (x := I 52 0) (z := 6) S Ft D8
  obtain ⟨I8, z8, n8', f8⟩ := c_needRow (g := g) (r := q1 T p) (most := 12) S (C.kn n5) f5 b1 (by decide)
  have n := n5.tr n8'
  have eF : nt (nt F (decide (I 52 0 < 6)) 3 (sS T p)) (rowOk T (q1 T p) 12) 2 (sS T (q1 T p)) = tF T 10 p y F := by
    show _ = nt (nt F (decide ((yL y).1 < 6)) 3 (sS T p)) (rowOk T (q1 T p) 12) 2 (sS T (q1 T p))
    by_cases h0 : F.1 = 0
    · rw [(Rd h0).1.2.2.2.2.1.1, show decide (nI (yL y).1 < 6) = decide ((yL y).1 < 6) from decide_eq_decide.mpr (nI_ltI (b := 6) (by have := (Rd h0).2.2.2.2.2.2.1.1; omega) (by decide))]
    · simp only [nt_n h0]
  rw [eF] at f8
  have v10 : ∀ k, k ≠ 4 → k ≠ 5 → I8 41 k = I 41 k := n.2
  by_cases hr : I 52 0 < 6
  · obtain ⟨I21, z21, a1, a2⟩ := c_putT (g := g) (I := I8) (P := P) (a := 53) (n := 6) (x := I8 52 0) (v := zmmin (I8 41 11) 12) (S.k 53 13 (by decide)) (S.l 53 6 (by decide)) (by decide)
    obtain ⟨J, zJ, d1, d3, d4⟩ := c_lineLoop (g := g) (x := I8 52 0) S Q C hz (fun i hi => (hLt i hi).1) (min (sZ T (q1 T p)) 12) 0 I21 (by omega) (by rw [a1 2 (by decide), n.1 2 (by decide)]) (by rw [a1 58 (by decide), n.1 58 (by decide)]) (by rw [a1 41 (by decide), v10 10 (by decide) (by decide)]; exact D10) (by rw [a1 41 (by decide), v10 11 (by decide) (by decide)]; exact D11) (by rw [a1 52 (by decide)])
    have far : ∀ c, c ≠ 52 → c ≠ 53 → c ≠ 54 → J c = I8 c := fun c x1 x2 x3 => by rw [d1 c x1 x3, a1 c x2]
    refine ⟨J, eX6_tellLine (wX6_tellLine_0 ⟨S.k 41 6 (by decide), 52, Q.p 41 2 52 (by decide), S.k 52 4 (by decide), S.k 41 6 (by decide), _, _, z5, S.k 41 6 (by decide), S.k 41 6 (by decide), S.k 41 6 (by decide), _, by rw [n5.2 10 (by decide) (by decide), n5.2 11 (by decide) (by decide), D10, D11]; exact z8, fun _ => ⟨S.k 41 6 (by decide), 52, Q.p 41 2 52 (by decide), S.k 52 4 (by decide), 53, Q.p 52 1 53 (by decide), S.k 41 6 (by decide), 52, Q.p 41 2 52 (by decide), S.k 52 4 (by decide), S.k 41 6 (by decide), I21, z21, zJ⟩, fun e => by rw [decide_eq_true hr] at e; cases e⟩), n.d.tr (KD.of (fun c hc => far c (by omega) (by omega) (by omega))), ⟨by rw [far 41 (by decide) (by decide) (by decide)]; exact f8.1, by rw [far 41 (by decide) (by decide) (by decide)]; exact f8.2⟩, fun hF => ?_⟩
    obtain ⟨t1, t2, -⟩ := nt_0 (by decide) hF
    obtain ⟨t3, t4, -⟩ := nt_0 (by decide) t1
    rw [decide_eq_true_eq] at t4
    obtain ⟨r1, r2⟩ := rowOk_1 t2
    obtain ⟨⟨H, HB, HF, HC, HL, HG⟩, Y⟩ := Rd t3
    have e52 : I8 52 0 = nI (yL y).1 := by rw [n.1 52 (by decide)]; exact HL.1
    have a2 := a2 _ e52 t4
    have d4 := d4 _ e52 t4
    obtain ⟨h1, h2⟩ := HlD.all H HB (J := J) (fun c c1 c2 => by rw [far c (by omega) (by omega) (by omega), n.1 c (by omega)])
    refine ⟨h1, h2, by rw [far 42 (by decide) (by decide) (by decide), n.1 42 (by decide)]; exact HF, HC.keep (fun j hj => by rw [far _ (by omega) (by omega) (by omega), n.1 _ (by omega)]), ⟨?_, fun i hi => ⟨?_, fun j hj => ?_⟩⟩, HG.keep (fun j hj => by rw [far _ (by omega) (by omega) (by omega), n.1 _ (by omega)])⟩
    · rw [d3, e52, nI_1]; rfl
    · have hi : i < (yL y).1 + 1 := hi
      show J 53 i = nI (upf (yL y).2.1 (yL y).1 (sZ T (q1 T p)) i)
      rw [d1 53 (by decide) (by decide), a2 i]
      by_cases e : i = (yL y).1
      · rw [if_pos e, e, upf_s, v10 11 (by decide) (by decide), D11, show (12 : Int32) = nI 12 from rfl, zmmin_n (by omega) (by decide), Nat.min_eq_left r1]
      · rw [if_neg e, upf_n _ _ e, n.1 53 (by decide)]; exact (HL.2 i (by omega)).1
    · have hi : i < (yL y).1 + 1 := hi
      have hj : j < upf (yL y).2.1 (yL y).1 (sZ T (q1 T p)) i := hj
      show J 54 (12 * i + j) = nI (upf (yL y).2.2 (yL y).1 (lts T (q1 T p)) i j)
      rw [d4]
      by_cases e : i = (yL y).1
      · rw [e, upf_s] at hj
        rw [e, upf_s, if_pos (by omega), show 12 * (yL y).1 + j - 12 * (yL y).1 = j by omega]; rfl
      · rw [upf_n _ _ e] at hj
        have := (Y.2.2.2.2.2.1.2 i (by omega)).1.2
        rw [if_neg (by omega), upf_n _ _ e, a1 54 (by decide), n.1 54 (by decide)]
        exact (HL.2 i (by omega)).2 j hj
  · refine ⟨I8, eX6_tellLine (wX6_tellLine_0 ⟨S.k 41 6 (by decide), 52, Q.p 41 2 52 (by decide), S.k 52 4 (by decide), S.k 41 6 (by decide), _, _, z5, S.k 41 6 (by decide), S.k 41 6 (by decide), S.k 41 6 (by decide), _, by rw [n5.2 10 (by decide) (by decide), n5.2 11 (by decide) (by decide), D10, D11]; exact z8, fun e => by rw [decide_eq_false hr] at e; exact absurd rfl e, fun _ => ⟨rfl, rfl⟩⟩), n.d, f8, fun hF => ?_⟩
    exfalso
    obtain ⟨t1, t2, -⟩ := nt_0 (by decide) hF
    obtain ⟨t3, t4, -⟩ := nt_0 (by decide) t1
    rw [decide_eq_true_eq] at t4
    rw [(Rd t3).1.2.2.2.2.1.1] at hr
    exact hr (nI_lt (b := 6) t4 (by decide))
theorem c_tellFact (S : Sg g) (Q : Sp P) (hp : p ≤ T.1) (R : RdC I y F) (D : FsD T I 11 p) (h : lF T 11 p = none) : ∃ J, Cl mX6_tellFact [.ref 41] (g, I, P) none (g, J, P) ∧ KD I J ∧ FtC J (tF T 11 p y F) ∧ ((tF T 11 p y F).1 = 0 → DatC J (tY T 11 p y)) := by
  obtain ⟨-, k1, k2, -⟩ := lF_n h
  obtain ⟨k2, k3⟩ := k2 rfl
  have k1 : sK T (q1 T p) = 2 := k1
  have k2 : sK T (q2 T p) = 2 := k2
  have b1 : q1 T p ≤ T.1 := (sE_b hp).2.1
  have b2 : q2 T p ≤ T.1 := (sE_b b1).2.1
  obtain ⟨Ft, Rd⟩ := R
  obtain ⟨D8, D10, D11, D12, Dtw, -⟩ := D
  obtain ⟨D13, D14, D15⟩ := Dtw rfl
  have D15 := D15 k2
  have D12 := D12 k1
  have na := sN_le b1 k1
  have nb := sN_le b2 k2
  obtain ⟨I5, z5, m5, f5⟩ := c_needRoom (g := g) (P := P) (x := I 55 0) (z := 8) S Ft D8
  obtain ⟨I8, z8, m8, f8⟩ := c_needNumber (g := g) (P := P) (q := sS T (q1 T p)) (n := sN T (q1 T p)) (lo := 0) (hi := 11) S f5 (by omega) (by decide) (by decide)
  obtain ⟨I11, z11, m11, f11⟩ := c_needNumber (g := g) (P := P) (q := sS T (q2 T p)) (n := sN T (q2 T p)) (lo := 0) (hi := 9) S f8 (by omega) (by decide) (by decide)
  rw [dle0, dle0] at f11
  have n := (m5.tr m8).tr m11
  have v : ∀ k, k ≠ 4 → k ≠ 5 → I11 41 k = I 41 k := n.2
  have eF : nt (nt (nt F (decide (I 55 0 < 8)) 3 (sS T p)) (decide (sN T (q1 T p) ≤ 11)) 2 (sS T (q1 T p))) (decide (sN T (q2 T p) ≤ 9)) 2 (sS T (q2 T p)) = tF T 11 p y F := by
    show _ = nt (nt (nt F (decide ((yG y).1 < 8)) 3 (sS T p)) (decide (sN T (q1 T p) ≤ 11)) 2 (sS T (q1 T p))) (decide (sN T (q2 T p) ≤ 9)) 2 (sS T (q2 T p))
    by_cases h0 : F.1 = 0
    · rw [(Rd h0).1.2.2.2.2.2.1, show decide (nI (yG y).1 < 8) = decide ((yG y).1 < 8) from decide_eq_decide.mpr (nI_ltI (b := 8) (by have := (Rd h0).2.2.2.2.2.2.2.1; omega) (by decide))]
    · simp only [nt_n h0]
  rw [eF] at f11
  by_cases hr : I 55 0 < 8
  · obtain ⟨I24, z24, a1, a2⟩ := c_putT (g := g) (I := I11) (P := P) (a := 56) (n := 8) (x := I11 55 0) (v := I11 41 12) (S.k 56 13 (by decide)) (S.l 56 8 (by decide)) (by decide)
    obtain ⟨I36, z36, c1, c2⟩ := c_putT (g := g) (I := I24) (P := P) (a := 57) (n := 8) (x := I24 55 0) (v := I24 41 15) (S.k 57 13 (by decide)) (S.l 57 8 (by decide)) (by decide)
    have far : ∀ c, c ≠ 55 → c ≠ 56 → c ≠ 57 → (zU I36 55 0 (I36 55 0 + 1)) c = I11 c := fun c x0 x1 x2 => by
      have e : I36 c = I11 c := by rw [c1 c x2, a1 c x1]
      rw [← e]; funext j; rw [zU_a _ _ x0]
    refine ⟨zU I36 55 0 (I36 55 0 + 1), eX6_tellFact (wX6_tellFact_0 ⟨S.k 41 6 (by decide), 55, Q.p 41 3 55 (by decide), S.k 55 5 (by decide), S.k 41 6 (by decide), _, _, z5, S.k 41 6 (by decide), S.k 41 6 (by decide), S.k 41 6 (by decide), _, by rw [m5.2 10 (by decide) (by decide), m5.2 12 (by decide) (by decide), D10, D12]; exact z8, S.k 41 6 (by decide), S.k 41 6 (by decide), S.k 41 6 (by decide), _, by rw [(m5.tr m8).2 13 (by decide) (by decide), (m5.tr m8).2 15 (by decide) (by decide), D13, D15]; exact z11, fun _ => ⟨S.k 41 6 (by decide), 55, Q.p 41 3 55 (by decide), S.k 55 5 (by decide), 56, Q.p 55 1 56 (by decide), S.k 41 6 (by decide), 55, Q.p 41 3 55 (by decide), S.k 55 5 (by decide), S.k 41 6 (by decide), I24, z24, S.k 41 6 (by decide), 55, Q.p 41 3 55 (by decide), S.k 55 5 (by decide), 57, Q.p 55 2 57 (by decide), S.k 41 6 (by decide), 55, Q.p 41 3 55 (by decide), S.k 55 5 (by decide), S.k 41 6 (by decide), I36, z36, S.k 41 6 (by decide), 55, Q.p 41 3 55 (by decide), S.k 55 5 (by decide), S.k 55 5 (by decide), rfl, rfl⟩, fun e => by rw [decide_eq_true hr] at e; cases e⟩), n.d.tr (KD.of (fun c hc => far c (by omega) (by omega) (by omega))), ⟨by rw [far 41 (by decide) (by decide) (by decide)]; exact f11.1, by rw [far 41 (by decide) (by decide) (by decide)]; exact f11.2⟩, fun hF => ?_⟩
    obtain ⟨t1, t2, -⟩ := nt_0 (by decide) hF
    obtain ⟨t3, t4, -⟩ := nt_0 (by decide) t1
    obtain ⟨t5, t6, -⟩ := nt_0 (by decide) t3
    rw [decide_eq_true_eq] at t2 t4 t6
    obtain ⟨⟨H, HB, HF, HC, HL, HG⟩, Y⟩ := Rd t5
    have e55 : I11 55 0 = nI (yG y).1 := by rw [n.1 55 (by decide)]; exact HG.1
    have f55 : I24 55 0 = nI (yG y).1 := by rw [a1 55 (by decide)]; exact e55
    have a2 := a2 _ e55 t6
    have c2 := c2 _ f55 t6
    obtain ⟨h1, h2⟩ := HlD.all H HB (J := zU I36 55 0 (I36 55 0 + 1)) (fun c c1 c2 => by rw [far c (by omega) (by omega) (by omega), n.1 c (by omega)])
    refine ⟨h1, h2, by rw [far 42 (by decide) (by decide) (by decide), n.1 42 (by decide)]; exact HF, HC.keep (fun j hj => by rw [far _ (by omega) (by omega) (by omega), n.1 _ (by omega)]), HL.keep (fun j hj => by rw [far _ (by omega) (by omega) (by omega), n.1 _ (by omega)]), ⟨?_, fun i hi => ?_⟩⟩
    · rw [zU_s, c1 55 (by decide), f55, nI_1]; rfl
    · have hi : i < (yG y).1 + 1 := hi
      show (zU I36 55 0 (I36 55 0 + 1)) 56 i = nI (upf (yG y).2.1 (yG y).1 (sN T (q1 T p)) i) ∧ (zU I36 55 0 (I36 55 0 + 1)) 57 i = nI (upf (yG y).2.2 (yG y).1 (sN T (q2 T p)) i)
      rw [zU_a _ _ (by decide), zU_a _ _ (by decide), c1 56 (by decide), a2 i, c2 i]
      by_cases e : i = (yG y).1
      · rw [if_pos e, if_pos e, e, upf_s, upf_s, v 12 (by decide) (by decide), D12, a1 41 (by decide), v 15 (by decide) (by decide), D15]
        exact ⟨rfl, rfl⟩
      · rw [if_neg e, if_neg e, upf_n _ _ e, upf_n _ _ e, n.1 56 (by decide), a1 57 (by decide), n.1 57 (by decide)]
        exact HG.2 i (by omega)
  · refine ⟨I11, eX6_tellFact (wX6_tellFact_0 ⟨S.k 41 6 (by decide), 55, Q.p 41 3 55 (by decide), S.k 55 5 (by decide), S.k 41 6 (by decide), _, _, z5, S.k 41 6 (by decide), S.k 41 6 (by decide), S.k 41 6 (by decide), _, by rw [m5.2 10 (by decide) (by decide), m5.2 12 (by decide) (by decide), D10, D12]; exact z8, S.k 41 6 (by decide), S.k 41 6 (by decide), S.k 41 6 (by decide), _, by rw [(m5.tr m8).2 13 (by decide) (by decide), (m5.tr m8).2 15 (by decide) (by decide), D13, D15]; exact z11, fun e => by rw [decide_eq_false hr] at e; exact absurd rfl e, fun _ => ⟨rfl, rfl⟩⟩), n.d, f11, fun hF => ?_⟩
    exfalso
    obtain ⟨t1, t2, -⟩ := nt_0 (by decide) hF
    obtain ⟨t3, t4, -⟩ := nt_0 (by decide) t1
    obtain ⟨t5, t6, -⟩ := nt_0 (by decide) t3
    rw [decide_eq_true_eq] at t6
    rw [(Rd t5).1.2.2.2.2.2.1] at hr
    exact hr (nI_lt (b := 8) t6 (by decide))
end CTELLS
