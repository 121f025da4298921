/-! ===== the reference reads a line of a hill ===== -/
/-- how a line ends: behind it, or wrong -/
def chn (T : Tp) (k p : Nat) (X : FS) : Md := match lF T k p with
  | none => .inl (lX T k p, X)
  | some q => .inr q
def mEnd (T : Tp) (k p : Nat) (y : PS) (F : FS) : Md := chn T k p (tF T k p y F)
theorem chn_n {T : Tp} {k p : Nat} {X : FS} (h : lF T k p = none) : chn T k p X = .inl (lX T k p, X) := by unfold chn; rw [h]
theorem chn_s {T : Tp} {k p q : Nat} {X : FS} (h : lF T k p = some q) : chn T k p X = .inr q := by unfold chn; rw [h]
theorem chn_e {T : Tp} {k p : Nat} {X Y : FS} (h : lF T k p = none → X = Y) : chn T k p X = chn T k p Y := by
  cases hl : lF T k p with
  | none => rw [chn_n hl, chn_n hl, h hl]
  | some q => rw [chn_s hl, chn_s hl]
theorem ch2 {T : Tp} {k p : Nat} {f1 f2 : Nat → FS → FS} {F1 : FS} (h0 : k ≠ 0) (ht : ktw k = true) : mTok T 3 fId (mTok T (ks k) f2 (mTok T (kf k) f1 (.inl (q1 T p, F1)))) = chn T k p (f2 (q2 T p) (f1 (q1 T p) F1)) := by
  by_cases h1 : sK T (q1 T p) = kf k
  · rw [mTok_t h1]
    by_cases h2 : sK T (q2 T p) = ks k
    · rw [mTok_t (r := sE T (q1 T p)) h2]
      by_cases h3 : sK T (q3 T p) = 3
      · rw [mTok_t (r := sE T (sE T (q1 T p))) h3, chn_n (by unfold lF; rw [if_neg h0, if_neg (fun e => e h1), if_pos ht, if_neg (fun e => e h2), if_neg (fun e => e h3)])]
        unfold lX
        rw [if_pos ht]; rfl
      · rw [mTok_f (r := sE T (sE T (q1 T p))) h3, chn_s (by unfold lF; rw [if_neg h0, if_neg (fun e => e h1), if_pos ht, if_neg (fun e => e h2), if_pos h3])]
    · rw [mTok_f (r := sE T (q1 T p)) h2, chn_s (by unfold lF; rw [if_neg h0, if_neg (fun e => e h1), if_pos ht, if_pos h2])]; rfl
  · rw [mTok_f h1, chn_s (by unfold lF; rw [if_neg h0, if_pos h1])]; rfl
theorem ch1 {T : Tp} {k p : Nat} {f1 : Nat → FS → FS} {F1 : FS} (h0 : k ≠ 0) (ht : ktw k = false) : mTok T 3 fId (mTok T (kf k) f1 (.inl (q1 T p, F1))) = chn T k p (f1 (q1 T p) F1) := by
  by_cases h1 : sK T (q1 T p) = kf k
  · rw [mTok_t h1]
    by_cases h2 : sK T (q2 T p) = 3
    · rw [mTok_t (r := sE T (q1 T p)) h2, chn_n (by unfold lF; rw [if_neg h0, if_neg (fun e => e h1), if_neg (by rw [ht]; decide), if_neg (fun e => e h2)])]
      unfold lX
      rw [if_neg (by rw [ht]; decide)]; rfl
    · rw [mTok_f (r := sE T (q1 T p)) h2, chn_s (by unfold lF; rw [if_neg h0, if_neg (fun e => e h1), if_neg (by rw [ht]; decide), if_pos h2])]
  · rw [mTok_f h1, chn_s (by unfold lF; rw [if_neg h0, if_pos h1])]; rfl
/-- what reading a line may change -/
def KT (I J : Nat → Nat → Int32) : Prop := (∀ c, c ≠ 95 → c ≠ 96 → c ≠ 98 → c ≠ 99 → J c = I c) ∧ (∀ k, k ≠ 5 → k ≠ 6 → J 96 k = I 96 k) ∧ J 95 2 = I 95 2
theorem KT.rf (I : Nat → Nat → Int32) : KT I I := ⟨fun _ _ _ _ _ => rfl, fun _ _ _ => rfl, rfl⟩
theorem KT.tr {I J K : Nat → Nat → Int32} (h : KT I J) (h2 : KT J K) : KT I K := ⟨fun c a b d e => (h2.1 c a b d e).trans (h.1 c a b d e), fun k a b => (h2.2.1 k a b).trans (h.2.1 k a b), h2.2.2.trans h.2.2⟩
theorem KL.t {I J : Nat → Nat → Int32} (h : KL I J) : KT I J := ⟨fun c a b _ d => h.1 c a b d, h.2.1, h.2.2 2 (by omega) (by decide)⟩
theorem KT.u {I : Nat → Nat → Int32} (k : Nat) (x : Int32) : KT I (zU I 98 k x) := ⟨fun c _ _ h _ => by funext j; rw [zU_a _ _ h], fun k _ _ => by rw [zU_a _ _ (by decide)], by rw [zU_a _ _ (by decide)]⟩
def DR0 (I : Nat → Nat → Int32) (y : PS) : Prop := (I 98 0 = nI (hS (yH y)) ∧ I 98 1 = nI (hN (yH y)) ∧ I 98 98 = zb (hF (yH y))) ∧ (∀ w, w < hN (yH y) → I 98 (2 + 8 * w) = nI (hZ (yH y) w)) ∧ (∀ w, w < hN (yH y) → I 98 (3 + 8 * w) = nI (hO (yH y) w)) ∧ (∀ w, w < 10 → I 98 (82 + w) = hB (yH y) w) ∧ (∀ w k, w < hN (yH y) → k < hZ (yH y) w → I 98 (4 + 8 * w + k) = nI (hL (yH y) w k)) ∧ (∀ q, q < 6 → I 98 (92 + q) = hA (yH y) q) ∧ (∀ w, w < hN (yH y) → ∀ i, hZ (yH y) w ≤ i → i < 6 → I 98 (4 + 8 * w + i) = 0) ∧ (∀ w, hN (yH y) ≤ w → w < 10 → ∀ i, i < 8 → I 98 (2 + 8 * w + i) = 0) ∧ I 95 9 = nI (yF y) - 1
theorem DR0.k {I J : Nat → Nat → Int32} {y : PS} (h : DR0 I y) (h8 : J 98 = I 98) (h9 : J 95 9 = I 95 9) : DR0 J y := by unfold DR0; rw [h8, h9]; exact h
section RHILL
variable {g : zG} {I : Nat → Nat → Int32} {P : Nat → Nat → Option Nat} {T : Tp} {F : FS} {y : PS} {p : Nat}
theorem PSt_k {J : Nat → Nat → Int32} {m : Md} (h : PSt T I m) (h6 : J 96 = I 96) (h5 : ∀ k, k ≤ 8 → J 95 k = I 95 k) : PSt T J m := by
  have tp : TpR I T → TpR J T := fun C => ⟨C.1, (h5 2 (by decide)).trans C.2.1, fun k hk => by rw [h6]; exact C.2.2 k hk⟩
  cases m with
  | inr q => exact ⟨tp h.1, (h5 8 (by decide)).trans h.2.1, by rw [h6]; exact h.2.2.1, by rw [h6]; exact h.2.2.2⟩
  | inl rF =>
    obtain ⟨a1, a2, a3, a4, a5, a6, a7⟩ := h
    refine ⟨tp a1, a2, (h5 8 (by decide)).trans a3, ?_, by rw [h6]; exact a5, by rw [h6]; exact a6, a7⟩
    unfold LkD
    rw [h5 3 (by decide), h5 4 (by decide), h5 5 (by decide), h5 6 (by decide), h5 7 (by decide)]
    exact a4
theorem PSt_u {m : Md} (h : PSt T I m) (k : Nat) (x : Int32) : PSt T (zU I 98 k x) m := PSt_k h (by funext j; rw [zU_a _ _ (by decide)]) (fun k _ => by rw [zU_a _ _ (by decide)])
theorem far_le {a f : Nat} (ha : a ≤ 9) (hf : f ≤ 10) : nI a ≤ nI f - 1 ↔ a < f := by
  rw [Int32.le_iff_toInt_le, n1, pk_sub_toInt (by omega) (by decide), nI_toInt (by omega)]
  omega
theorem r_wordTold {m : Md} (S : Sg g) (Q : Sp P) (h : PSt T I m) : ∃ v J, Cl mX12_wordTold [.ref 95] (g, I, P) (some (.int (nI v))) (g, J, P) ∧ KT I J ∧ J 98 = I 98 ∧ PSt T J (mTok T 2 (fNum T 0 9) m) ∧ v ≤ 9 ∧ (∀ r F, m = .inl (r, F) → sK T r = 2 → sN T r ≤ 9 → v = sN T r) ∧ ∀ f, f ≤ 10 → I 95 9 = nI f - 1 → J 95 9 = nI (max f (v + 1)) - 1 := by
  obtain ⟨v, J, z, k, -, -, L, -, hv, hs⟩ := r_numbered (g := g) (lo := 0) (hi := 9) S Q h (by decide) (by decide)
  have e9 : J 95 9 = I 95 9 := k.2.2 9 (by omega) (by decide)
  by_cases hc : nI v ≤ J 95 9
  · refine ⟨v, zU J 95 9 (J 95 9), eX12_wordTold (wX12_wordTold_0 ⟨S.k 95 12 (by decide), _, _, z, S.k 95 12 (by decide), fun _ => ⟨S.k 95 12 (by decide), S.k 95 12 (by decide), rfl, rfl⟩, fun e => absurd hc e⟩), ⟨fun c c1 c2 c3 c4 => by (rw [← k.1 c c1 c2 c4]; funext j; rw [zU_a _ _ c1]), fun k' a b => by rw [zU_a _ _ (by decide)]; exact k.2.1 k' a b, by rw [zU_k _ _ (by decide)]; exact k.2.2 2 (by omega) (by decide)⟩, by (rw [← k.1 98 (by decide) (by decide) (by decide)]; funext j; rw [zU_a _ _ (by decide)]), PSt_k L (by funext j; rw [zU_a _ _ (by decide)]) (fun k hk => by rw [zU_k _ _ (by omega)]), hv, fun r F e c1 c2 => hs r F e c1 (Nat.zero_le _) c2, fun f hf e => ?_⟩
    rw [zU_s, e9, e]
    rw [e9, e, far_le hv hf] at hc
    rw [show max f (v + 1) = f by omega]
  · refine ⟨v, zU J 95 9 (nI v), eX12_wordTold (wX12_wordTold_0 ⟨S.k 95 12 (by decide), _, _, z, S.k 95 12 (by decide), fun e => absurd e hc, fun _ => ⟨S.k 95 12 (by decide), rfl, rfl⟩⟩), ⟨fun c c1 c2 c3 c4 => by (rw [← k.1 c c1 c2 c4]; funext j; rw [zU_a _ _ c1]), fun k' a b => by rw [zU_a _ _ (by decide)]; exact k.2.1 k' a b, by rw [zU_k _ _ (by decide)]; exact k.2.2 2 (by omega) (by decide)⟩, by (rw [← k.1 98 (by decide) (by decide) (by decide)]; funext j; rw [zU_a _ _ (by decide)]), PSt_k L (by funext j; rw [zU_a _ _ (by decide)]) (fun k hk => by rw [zU_k _ _ (by omega)]), hv, fun r F e c1 c2 => hs r F e c1 (Nat.zero_le _) c2, fun f hf e => ?_⟩
    rw [e9, e, far_le hv hf] at hc
    rw [zU_s, show max f (v + 1) = v + 1 by omega, nI_pred]
/-- letters come into a word or a line of what is read -/
theorem r_wordLoop {b mm : Nat} (S : Sg g) (Q : Sp P) (hb : 2 ≤ b) (hbm : b + 2 + mm ≤ 121) (hm : mm ≤ 12) : ∀ n i (K : Nat → Nat → Int32), i + n = mm → K 95 12 = nI mm → ∃ J, Zt none mX12_wordLine 0 0 83 [(0, .ref 95), (4, .int (nI b)), (5, .int (nI i))] [] (g, K, P) none (g, J, P) ∧ (∀ c, c ≠ 98 → J c = K c) ∧ ∀ j, J 98 j = if j = 1 then K 98 1 + 1 else if b + 2 + i ≤ j ∧ j < b + 2 + mm then K 99 (j - (b + 2)) else K 98 j := by
  have i1 : vp_in 1 (g.2.2 98) := by rw [S.l 98 121 (by decide)]; exact vp_in_nI (n := 1) (by decide) (by decide)
  intro n
  induction n with
  | zero =>
    intro i K hi h12
    have hi : i = mm := hi
    refine ⟨zU K 98 1 (K 98 1 + 1), wX12_wordLine_83 ⟨S.k 95 12 (by decide), fun _ => ⟨S.k 95 12 (by decide), 98, Q.p 95 10 98 (by decide), S.k 98 13 (by decide), i1, S.k 98 13 (by decide), i1, rfl, by rw [c1]⟩, fun e => absurd (by rw [h12, hi]; exact Int32.le_refl _) e⟩, fun c hc => by funext j; rw [zU_a _ _ hc], fun j => ?_⟩
    by_cases e : j = 1
    · subst e; rw [zU_s, if_pos rfl]
    · rw [zU_k _ _ e, if_neg e, if_neg (by omega)]
  | succ n ih =>
    intro i K hi h12
    have e99 : vp_in (nI i) (g.2.2 99) := by rw [S.l 99 12 (by decide)]; exact vp_in_nI (by omega) (by decide)
    have eb : nI b + 2 + nI i = nI (b + 2 + i) := by rw [n2, nI_add, nI_add]
    have e98 : vp_in (nI b + 2 + nI i) (g.2.2 98) := by rw [eb, S.l 98 121 (by decide)]; exact vp_in_nI (by omega) (by decide)
    obtain ⟨J, z, a1, a2⟩ := ih (i + 1) (zU K 98 (b + 2 + i) (K 99 i)) (by omega) (by rw [zU_a _ _ (by decide)]; exact h12)
    refine ⟨J, wX12_wordLine_83 ⟨S.k 95 12 (by decide), fun e => ?_, fun _ => ⟨S.k 95 12 (by decide), 98, Q.p 95 10 98 (by decide), S.k 95 12 (by decide), 99, Q.p 95 11 99 (by decide), S.k 99 13 (by decide), e99, S.k 98 13 (by decide), e98, ?_⟩⟩, fun c hc => by (rw [a1 c hc]; funext j; rw [zU_a _ _ hc]), fun j => ?_⟩
    · rw [h12] at e; exact absurd e (nI_ge (by omega) (by omega))
    · rw [eb, nI_clamp (by omega), nI_clamp (by omega), nI_1]; exact z
    · rw [a2 j, zU_k (f := K) (a := 98) (k := b + 2 + i) (b := 98) (j := 1) _ (by omega), zU_a (f := K) (a := 98) (k := b + 2 + i) (b := 99) (j := j - (b + 2)) _ (by decide)]
      by_cases e : j = 1
      · rw [if_pos e, if_pos e]
      · rw [if_neg e, if_neg e]
        by_cases e2 : b + 2 + (i + 1) ≤ j ∧ j < b + 2 + mm
        · rw [if_pos e2, if_pos (by omega)]
        · rw [if_neg e2]
          by_cases e3 : j = b + 2 + i
          · rw [e3, zU_s, if_pos (by omega), show b + 2 + i - (b + 2) = i by omega]
          · rw [zU_k _ _ e3, if_neg (by omega)]
/-- a line of a word -/
theorem r_wordLine {c : Nat} (S : Sg g) (Q : Sp P) (h : PSt T I (.inl (q1 T p, F))) (hF : Fw F (sS T p)) (hlt : sS T p < sS T (q1 T p)) (hc : I 98 1 = nI c) (hc10 : c ≤ 10) : ∃ J mm v, Cl mX12_wordLine [.ref 95, .int (nI (sS T p))] (g, I, P) none (g, J, P) ∧ KT I J ∧ PSt T J (mTok T 2 (fNum T 0 99) (mTok T 1 (fRow T 6) (.inl (q1 T p, nt F (decide (c < 10)) 3 (sS T p))))) ∧ J 95 9 = I 95 9 ∧ (c = 10 → J 98 = I 98) ∧ (c < 10 → ∃ L : Nat → Int32, mm ≤ 6 ∧ (∀ j, J 98 j = if j = 1 then nI (c + 1) else if 4 + 8 * c ≤ j ∧ j < 4 + 8 * c + mm then L (j - (4 + 8 * c)) else if j = 3 + 8 * c then nI v else if j = 2 + 8 * c then nI mm else I 98 j) ∧ (sK T (q1 T p) = 1 → rowOk T (q1 T p) 6 = true → mm = sZ T (q1 T p) ∧ (∀ i, i < sZ T (q1 T p) → L i = nI (lts T (q1 T p) i)) ∧ (sK T (q2 T p) = 2 → v = sN T (q2 T p)))) := by
  have h600 := (PSt_l h).1.1
  have hq := (PSt_l h).2.1
  have b1 := sE_b hq
  have i1 : vp_in 1 (g.2.2 98) := by rw [S.l 98 121 (by decide)]; exact vp_in_nI (n := 1) (by decide) (by decide)
  -- the fault of no room
  have room : ∃ K, KL I K ∧ K 95 = I 95 ∧ PSt T K (.inl (q1 T p, nt F (decide (c < 10)) 3 (sS T p))) ∧ ∀ J, Zt none mX12_wordLine 0 0 27 [(0, .ref 95), (2, .int (zb (decide (c < 10))))] [] (g, K, P) none (g, J, P) → Cl mX12_wordLine [.ref 95, .int (nI (sS T p))] (g, I, P) none (g, J, P) := by
    by_cases h10 : c < 10
    · rw [decide_eq_true h10, nt_t]
      refine ⟨I, KL.rf I, rfl, h, fun J z => eX12_wordLine (wX12_wordLine_0 ⟨S.k 95 12 (by decide), 98, Q.p 95 10 98 (by decide), S.k 98 13 (by decide), i1, fun e => ?_, fun _ => ⟨fun _ => z, fun e => absurd e (by decide)⟩⟩)⟩
      rw [c1, hc] at e
      exact absurd e (nI_ge (b := 10) h10 (by decide))
    · rw [decide_eq_false h10]
      obtain ⟨K, z1, k1, e95, L⟩ := r_alsoM (g := g) (k := 3) (q := sS T p) S Q h (fun r F' e => by cases e; exact ⟨hF, hlt⟩)
      refine ⟨K, k1, e95, L, fun J z => eX12_wordLine (wX12_wordLine_0 ⟨S.k 95 12 (by decide), 98, Q.p 95 10 98 (by decide), S.k 98 13 (by decide), i1, fun _ => ⟨fun e => absurd rfl e, fun _ => ⟨S.k 95 12 (by decide), _, z1, z⟩⟩, fun e => ?_⟩)⟩
      rw [c1, hc] at e
      exact absurd (nI_le (a := 10) (by omega) (by omega)) e
  obtain ⟨K, kK, K95', LK, head⟩ := room
  obtain ⟨mm, J1, z1, k1, L1, e12, hmm, hrow⟩ := r_rowTold (g := g) (most := 6) S Q LK (by decide)
  obtain ⟨v, J2, z2, k2, e99, f12, L2, v0, v99, hnum⟩ := r_numbered (g := g) (lo := 0) (hi := 99) S Q L1 (by decide) (by decide)
  have kk := (kK.tr k1).tr k2
  have x98 : ∀ j, J2 98 j = I 98 j := fun j => by rw [kk.1 98 (by decide) (by decide) (by decide)]
  have x9 : J2 95 9 = I 95 9 := kk.2.2 9 (by omega) (by decide)
  by_cases h10 : c < 10
  · have ey : (2 : Int32) + 8 * J2 98 (1 : Int32).toNatClampNeg = nI (2 + 8 * c) := by rw [c1, x98, hc, n2, n8, pk_mul, nI_add]
    obtain ⟨K3, hK3⟩ : ∃ K3, K3 = zU (zU J2 98 (2 + 8 * c) (nI mm)) 98 (2 + 8 * c + 1) (nI v) := ⟨_, rfl⟩
    have t12 : J2 95 12 = nI mm := f12.trans e12
    have K312 : K3 95 12 = nI mm := by rw [hK3, zU_a _ _ (by decide), zU_a _ _ (by decide)]; exact t12
    obtain ⟨J, zJ, a1, a2⟩ := r_wordLoop (g := g) (b := 2 + 8 * c) (mm := mm) S Q (by omega) (by omega) (by omega) mm 0 K3 (by omega) K312
    have LJ : PSt T J (mTok T 2 (fNum T 0 99) (mTok T 1 (fRow T 6) (.inl (q1 T p, nt F (decide (c < 10)) 3 (sS T p))))) := PSt_k L2 (by rw [a1 96 (by decide), hK3]; funext j; rw [zU_a _ _ (by decide), zU_a _ _ (by decide)]) (fun k _ => by rw [a1 95 (by decide), hK3, zU_a _ _ (by decide), zU_a _ _ (by decide)])
    have kt : KT J2 J := by
      refine ⟨fun c' c1 c2 c3 c4 => by (rw [a1 c' c3, hK3]; funext j; rw [zU_a _ _ c3, zU_a _ _ c3]), fun k _ _ => ?_, ?_⟩
      · rw [a1 96 (by decide), hK3, zU_a _ _ (by decide), zU_a _ _ (by decide)]
      · rw [a1 95 (by decide), hK3, zU_a _ _ (by decide), zU_a _ _ (by decide)]
    refine ⟨J, mm, v, head J (wX12_wordLine_27 ⟨S.k 95 12 (by decide), _, z1, S.k 95 12 (by decide), _, _, z2, fun _ => ⟨S.k 95 12 (by decide), 98, Q.p 95 10 98 (by decide), S.k 98 13 (by decide), i1, fun y hy => ?_⟩, fun e => by (rw [decide_eq_true h10] at e; cases e)⟩), kk.t.tr kt, LJ, ?_, fun e => by omega, fun _ => ⟨fun i => J2 99 i, hmm, fun j => ?_, fun s1 s2 => ?_⟩⟩
    · rw [ey] at hy
      subst hy
      refine ⟨S.k 95 12 (by decide), 98, Q.p 95 10 98 (by decide), S.k 95 12 (by decide), S.k 98 13 (by decide), by rw [S.l 98 121 (by decide)]; exact vp_in_nI (by omega) (by decide), S.k 95 12 (by decide), 98, Q.p 95 10 98 (by decide), S.k 98 13 (by decide), by rw [nI_1, S.l 98 121 (by decide)]; exact vp_in_nI (by omega) (by decide), ?_⟩
      rw [nI_1, nI_clamp (by omega), nI_clamp (by omega), t12, ← hK3]
      exact zJ
    · rw [a1 95 (by decide), hK3, zU_a _ _ (by decide), zU_a _ _ (by decide)]; exact x9
    · rw [a2 j]
      by_cases e1 : j = 1
      · rw [if_pos e1, if_pos e1, hK3, zU_k _ _ (by omega), zU_k _ _ (by omega), x98, hc, nI_1]
      · rw [if_neg e1, if_neg e1]
        by_cases e2 : 2 + 8 * c + 2 + 0 ≤ j ∧ j < 2 + 8 * c + 2 + mm
        · rw [if_pos e2, if_pos (by omega), hK3, zU_a _ _ (by decide), zU_a _ _ (by decide), show 2 + 8 * c + 2 = 4 + 8 * c by omega]
        · rw [if_neg e2, if_neg (by omega), hK3]
          by_cases e3 : j = 3 + 8 * c
          · rw [if_pos e3, show j = 2 + 8 * c + 1 by omega, zU_s]
          · rw [if_neg e3, zU_k _ _ (by omega)]
            by_cases e4 : j = 2 + 8 * c
            · rw [if_pos e4, e4, zU_s]
            · rw [if_neg e4, zU_k _ _ e4, x98]
    · obtain ⟨r1, r2⟩ := hrow (q1 T p) _ rfl s1 s2
      refine ⟨r1, fun i hi => by show J2 99 i = _; rw [e99]; exact r2 i hi, fun s3 => ?_⟩
      have em : mTok T 1 (fRow T 6) (.inl (q1 T p, nt F (decide (c < 10)) 3 (sS T p))) = .inl (q2 T p, fRow T 6 (q1 T p) (nt F (decide (c < 10)) 3 (sS T p))) := mTok_t s1
      exact hnum (q2 T p) _ em s3 (Nat.zero_le _) (sN_le (p := q2 T p) b1.2.1 s3)
  · refine ⟨J2, mm, v, head J2 (wX12_wordLine_27 ⟨S.k 95 12 (by decide), _, z1, S.k 95 12 (by decide), _, _, z2, fun e => by (rw [decide_eq_false h10] at e; exact absurd rfl e), fun _ => ⟨rfl, rfl⟩⟩), kk.t, L2, x9, fun _ => kk.1 98 (by decide) (by decide) (by decide), fun e => absurd e h10⟩
theorem r_hillLine {c : Nat} (S : Sg g) (Q : Sp P) (h : PSt T I (.inl (p, F))) (hk0 : sK T p ≠ 0) (hc : I 98 1 = nI c) (hc10 : c ≤ 10) (Rd : F.1 = 0 → DR0 I y ∧ PW y) : ∃ J, Cl mX12_hillLine [.ref 95] (g, I, P) none (g, J, P) ∧ KT I J ∧ PSt T J (mEnd T (kS T 0 p) p y F) ∧ (∃ c', J 98 1 = nI c' ∧ c' ≤ 10) ∧ (lF T (kS T 0 p) p = none → (tF T (kS T 0 p) p y F).1 = 0 → DR0 J (tY T (kS T 0 p) p y)) := by
  obtain ⟨C, hp, h8, D, f5, f6, hF⟩ := PSt_l h
  have gg := sK_g hp hk0
  have bE := sE_b hp
  have b1 : q1 T p ≤ T.1 := bE.2.1
  have b2 : q2 T p ≤ T.1 := (sE_b b1).2.1
  have bs1 := sS_b b1
  have hlt : sS T p < sS T (q1 T p) := by have : sS T p < sE T p := bE.2.2.2 gg.2.1; have : q1 T p = sE T p := rfl; omega
  obtain ⟨I2, z2, k2, -, -, L2⟩ := r_wordIn (g := g) (so := 0) S Q h (by decide)
  have x98 : I2 98 = I 98 := k2.1 98 (by decide) (by decide) (by decide)
  have x9 : I2 95 9 = I 95 9 := k2.2.2 9 (by omega) (by decide)
  have h98 : vp_in 98 (g.2.2 98) := by rw [S.l 98 121 (by decide)]; exact vp_in_nI (n := 98) (by decide) (by decide)
  have hk : kS T 0 p = 0 ∨ kS T 0 p = 1 ∨ kS T 0 p = 2 ∨ kS T 0 p = 3 ∨ kS T 0 p = 4 := by
    rcases kS_le (T := T) (so := 0) (p := p) (by decide) with e | ⟨-, e1, e2, e3⟩
    · exact Or.inl e
    · have e2 : 1 ≤ sW T p := e2
      have e3 : sW T p ≤ 4 := e3
      omega
  generalize hkk : kS T 0 p = k at *
  rcases hk with rfl | rfl | rfl | rfl | rfl
  · -- no word of a hill
    rw [if_pos rfl] at L2
    obtain ⟨J, z, kJ, L⟩ := r_endsLine S Q L2
    have hl : lF T 0 p = some (sS T p) := by unfold lF; rw [if_pos rfl]
    refine ⟨J, eX12_hillLine (wX12_hillLine_0 ⟨S.k 95 12 (by decide), S.k 95 12 (by decide), _, _, z2, fun _ => ⟨fun _ => ⟨fun _ => ⟨S.k 95 12 (by decide), _, z, rfl, rfl⟩, fun e => absurd rfl e⟩, fun e => absurd e (by decide)⟩, fun e => absurd e (by decide)⟩), k2.t.tr kJ.t, ?_, ⟨c, by rw [kJ.1 98 (by decide) (by decide) (by decide), x98]; exact hc, hc10⟩, fun e => by (rw [hl] at e; cases e)⟩
    unfold mEnd
    rw [chn_s hl]; exact L
  · -- a word
    rw [if_neg (by decide)] at L2
    obtain ⟨J, mm, v, zJ, kJ, LJ, j9, j10, jl⟩ := r_wordLine (g := g) (p := p) S Q L2 hF hlt (by rw [x98]; exact hc) hc10
    obtain ⟨J', zE, kE, LE⟩ := r_endsLine S Q LJ
    have E98 : J' 98 = J 98 := kE.1 98 (by decide) (by decide) (by decide)
    have ec : mTok T 3 fId (mTok T 2 (fNum T 0 99) (mTok T 1 (fRow T 6) (.inl (q1 T p, nt F (decide (c < 10)) 3 (sS T p))))) = chn T 1 p (fNum T 0 99 (q2 T p) (fRow T 6 (q1 T p) (nt F (decide (c < 10)) 3 (sS T p)))) := ch2 (k := 1) (by decide) rfl
    rw [ec] at LE
    have eF : lF T 1 p = none → fNum T 0 99 (q2 T p) (fRow T 6 (q1 T p) (nt F (decide (c < 10)) 3 (sS T p))) = tF T 1 p y F := by
      intro hl
      obtain ⟨-, k1, k2', -⟩ := lF_n hl
      have k2' : sK T (q2 T p) = 2 := (k2' rfl).1
      unfold fNum fRow
      rw [show decide (0 ≤ sN T (q2 T p) ∧ sN T (q2 T p) ≤ 99) = true from decide_eq_true ⟨Nat.zero_le _, sN_le b2 k2'⟩, nt_t]
      show _ = nt (nt F (decide (hN (yH y) < 10)) 3 (sS T p)) (rowOk T (q1 T p) 6) 2 (sS T (q1 T p))
      by_cases h0 : F.1 = 0
      · have e1 := (Rd h0).1.1.2.1
        have e2 := (Rd h0).2.1.2.1
        rw [hc, nI_eq (by omega) (by omega)] at e1
        rw [e1]
      · simp only [nt_n h0]
    refine ⟨J', eX12_hillLine (wX12_hillLine_0 ⟨S.k 95 12 (by decide), S.k 95 12 (by decide), _, _, z2, fun e => absurd (by decide) e, fun _ => ⟨S.k 95 12 (by decide), _, by rw [D.2.1]; exact zJ, S.k 95 12 (by decide), _, zE, rfl, rfl⟩⟩), (k2.t.tr kJ).tr kE.t, by unfold mEnd; rw [← chn_e eF]; exact LE, ?_, fun hl hF0 => ?_⟩
    · by_cases h10 : c < 10
      · obtain ⟨L, m6, q, -⟩ := jl h10
        exact ⟨c + 1, by rw [E98, q 1, if_pos rfl], by omega⟩
      · exact ⟨c, by rw [E98, j10 (by omega), x98]; exact hc, hc10⟩
    · obtain ⟨-, k1, k2', -⟩ := lF_n hl
      have k1 : sK T (q1 T p) = 1 := k1
      have k2' : sK T (q2 T p) = 2 := (k2' rfl).1
      obtain ⟨t1, t2, -⟩ := nt_0 (by decide) hF0
      obtain ⟨t3, t4, -⟩ := nt_0 (by decide) t1
      rw [decide_eq_true_eq] at t4
      obtain ⟨⟨⟨d0, d1, d98⟩, dz, dO, dB, dL, dA, dU, dV, d9⟩, Y⟩ := Rd t3
      have ecn : c = hN (yH y) := by rw [hc, nI_eq (by omega) (by omega)] at d1; exact d1
      subst ecn
      obtain ⟨L, m6, E, q⟩ := jl t4
      obtain ⟨r1, r2, r3⟩ := q k1 t2
      have r3 := r3 k2'
      have w6 := Y.1.2.2.1
      rw [x98] at E
      refine DR0.k (I := J) ?_ E98 (kE.2.2 9 (by omega) (by decide))
      have hz6 := (rowOk_1 t2).1
      refine ⟨⟨?_, ?_, ?_⟩, fun w hw => ?_, fun w hw => ?_, fun w hw => ?_, fun w i hw hi => ?_, fun q hq => ?_, fun w hw i hi hi6 => ?_, fun w hw hw10 i hi => ?_, ?_⟩
      · rw [E, if_neg (by omega), if_neg (by omega), if_neg (by omega), if_neg (by omega)]; exact d0
      · rw [E, if_pos rfl]; rfl
      · rw [E, if_neg (by omega), if_neg (by omega), if_neg (by omega), if_neg (by omega)]; exact d98
      · have hw : w < hN (yH y) + 1 := hw
        show J 98 (2 + 8 * w) = nI (upf (hZ (yH y)) (hN (yH y)) (sZ T (q1 T p)) w)
        rw [E, if_neg (by omega), if_neg (by omega), if_neg (by omega)]
        by_cases e : w = hN (yH y)
        · rw [if_pos (by omega), e, upf_s, r1]
        · rw [if_neg (by omega), upf_n _ _ e]; exact dz w (by omega)
      · have hw : w < hN (yH y) + 1 := hw
        show J 98 (3 + 8 * w) = nI (upf (hO (yH y)) (hN (yH y)) (sN T (q2 T p)) w)
        rw [E, if_neg (by omega), if_neg (by omega)]
        by_cases e : w = hN (yH y)
        · rw [if_pos (by omega), e, upf_s, r3]
        · rw [if_neg (by omega), if_neg (by omega), upf_n _ _ e]; exact dO w (by omega)
      · rw [E, if_neg (by omega), if_neg (by omega), if_neg (by omega), if_neg (by omega)]; exact dB w hw
      · have hw : w < hN (yH y) + 1 := hw
        have hi : i < upf (hZ (yH y)) (hN (yH y)) (sZ T (q1 T p)) w := hi
        show J 98 (4 + 8 * w + i) = nI (upf (hL (yH y)) (hN (yH y)) (lts T (q1 T p)) w i)
        rw [E, if_neg (by omega)]
        by_cases e : w = hN (yH y)
        · rw [e, upf_s] at hi
          rw [e, upf_s, if_pos (by omega), show 4 + 8 * hN (yH y) + i - (4 + 8 * hN (yH y)) = i by omega]
          exact r2 i hi
        · rw [upf_n _ _ e] at hi
          have := (w6 w (by omega)).2
          rw [if_neg (by omega), if_neg (by omega), if_neg (by omega), upf_n _ _ e]
          exact dL w i (by omega) hi
      · rw [E, if_neg (by omega), if_neg (by omega), if_neg (by omega), if_neg (by omega)]; exact dA q hq
      · have hw : w < hN (yH y) + 1 := hw
        have hi : upf (hZ (yH y)) (hN (yH y)) (sZ T (q1 T p)) w ≤ i := hi
        by_cases e : w = hN (yH y)
        · rw [e, upf_s] at hi
          rw [E, if_neg (by omega), if_neg (by omega), if_neg (by omega), if_neg (by omega), show 4 + 8 * w + i = 2 + 8 * w + (2 + i) by omega]
          exact dV w (by omega) (by omega) (2 + i) (by omega)
        · rw [upf_n _ _ e] at hi
          rw [E, if_neg (by omega), if_neg (by omega), if_neg (by omega), if_neg (by omega)]
          exact dU w (by omega) i hi hi6
      · have hw : hN (yH y) + 1 ≤ w := hw
        rw [E, if_neg (by omega), if_neg (by omega), if_neg (by omega), if_neg (by omega)]
        exact dV w (by omega) hw10 i hi
      · rw [j9, x9]; exact d9
  · -- follows
    rw [if_neg (by decide)] at L2
    obtain ⟨va, Ja, za, ka, ea, La, va9, ha, fa⟩ := r_wordTold (g := g) S Q L2
    obtain ⟨vb, Jb, zb', kb, eb, Lb, vb9, hb, fb'⟩ := r_wordTold (g := g) S Q La
    have e98 : ∀ j, Jb 98 j = I 98 j := fun j => by rw [eb, ea, x98]
    have ei : (82 : Int32) + nI va = nI (82 + va) := by rw [show (82 : Int32) = nI 82 from rfl, nI_add]
    have vi : vp_in (82 + nI va) (g.2.2 98) := by rw [ei, S.l 98 121 (by decide)]; exact vp_in_nI (by omega) (by decide)
    obtain ⟨K, hK⟩ : ∃ K, K = zU (zU Jb 98 (82 + va) (Jb 98 (82 + va) ||| bitI vb)) 98 98 1 := ⟨_, rfl⟩
    have LK : PSt T K (mTok T 2 (fNum T 0 9) (mTok T 2 (fNum T 0 9) (.inl (q1 T p, F)))) := by rw [hK]; exact PSt_u (PSt_u Lb _ _) _ _
    obtain ⟨J', zE, kE, LE⟩ := r_endsLine S Q LK
    have E98 : J' 98 = K 98 := kE.1 98 (by decide) (by decide) (by decide)
    rw [show mTok T 3 fId (mTok T 2 (fNum T 0 9) (mTok T 2 (fNum T 0 9) (.inl (q1 T p, F)))) = chn T 2 p (fNum T 0 9 (q2 T p) (fNum T 0 9 (q1 T p) F)) from ch2 (k := 2) (by decide) rfl] at LE
    have eF : fNum T 0 9 (q2 T p) (fNum T 0 9 (q1 T p) F) = tF T 2 p y F := by unfold fNum; rw [dle0, dle0]; rfl
    have kJ : KT I J' := (((k2.t.tr ka).tr kb).tr (by rw [hK]; exact (KT.u _ _).tr (KT.u _ _))).tr kE.t
    refine ⟨J', eX12_hillLine (wX12_hillLine_0 ⟨S.k 95 12 (by decide), S.k 95 12 (by decide), _, _, z2, fun _ => ⟨fun _ => ⟨fun e => absurd e (by decide), fun _ => ⟨fun e => absurd rfl e, fun _ => ⟨S.k 95 12 (by decide), _, _, za, wX12_hillLine_67 ⟨S.k 95 12 (by decide), _, _, zb', fun e => absurd rfl e, fun _ => ⟨S.k 95 12 (by decide), 98, Q.p 95 10 98 (by decide), S.k 98 13 (by decide), vi, S.k 98 13 (by decide), vi, S.k 95 12 (by decide), 98, Q.p 95 10 98 (by decide), S.k 98 13 (by decide), h98, S.k 95 12 (by decide), J', ?_, rfl, rfl⟩⟩⟩⟩⟩, fun e => absurd e (by decide)⟩, fun e => absurd e (by decide)⟩), kJ, by unfold mEnd; rw [← eF]; exact LE, ⟨c, by rw [E98, hK, zU_k _ _ (by decide), zU_k _ _ (by omega), e98]; exact hc, hc10⟩, fun hl hF0 => ?_⟩
    · rw [ei, nI_clamp (by omega), show (98 : Int32).toNatClampNeg = 98 by decide]
      rw [hK] at zE
      exact zE
    · obtain ⟨-, k1, k2', -⟩ := lF_n hl
      have k1 : sK T (q1 T p) = 2 := k1
      have k2' : sK T (q2 T p) = 2 := (k2' rfl).1
      obtain ⟨t1, t2, -⟩ := nt_0 (by decide) hF0
      obtain ⟨t3, t4, -⟩ := nt_0 (by decide) t1
      rw [decide_eq_true_eq] at t2 t4
      obtain ⟨⟨⟨d0, d1, d98⟩, dz, dO, dB, dL, dA, dU, dV, d9⟩, Y⟩ := Rd t3
      have eva := ha (q1 T p) F rfl k1 t4
      have evb := hb (q2 T p) _ (mTok_t k1) k2' t2
      have hn := Y.1.2.1
      have w6 := Y.1.2.2.1
      refine DR0.k (I := K) ?_ E98 (kE.2.2 9 (by omega) (by decide))
      have E : ∀ j, K 98 j = if j = 98 then 1 else if j = 82 + va then I 98 (82 + va) ||| bitI vb else I 98 j := fun j => by
        rw [hK]
        by_cases e : j = 98
        · subst e; rw [zU_s, if_pos rfl]
        · rw [zU_k _ _ e, if_neg e]
          by_cases e2 : j = 82 + va
          · subst e2; rw [zU_s, if_pos rfl, e98]
          · rw [zU_k _ _ e2, if_neg e2, e98]
      refine ⟨⟨?_, ?_, ?_⟩, fun w hw => ?_, fun w hw => ?_, fun w hw => ?_, fun w i hw hi => ?_, fun q hq => ?_, fun w hw i hi hi6 => ?_, fun w hw hw10 i hi => ?_, ?_⟩
      · rw [E, if_neg (by omega), if_neg (by omega)]; exact d0
      · rw [E, if_neg (by omega), if_neg (by omega)]; exact d1
      · rw [E, if_pos rfl]; rfl
      · have hw : w < hN (yH y) := hw
        rw [E, if_neg (by omega), if_neg (by omega)]; exact dz w hw
      · have hw : w < hN (yH y) := hw
        rw [E, if_neg (by omega), if_neg (by omega)]; exact dO w hw
      · show K 98 (82 + w) = upf (hB (yH y)) (sN T (q1 T p)) (hB (yH y) (sN T (q1 T p)) ||| bitI (sN T (q2 T p))) w
        rw [E, if_neg (by omega), ← eva, ← evb]
        by_cases e : w = va
        · rw [if_pos (by omega), e, upf_s, dB va (by omega)]
        · rw [if_neg (by omega), upf_n _ _ e]; exact dB w hw
      · have hw : w < hN (yH y) := hw
        have hi : i < hZ (yH y) w := hi
        have := (w6 w hw).2
        rw [E, if_neg (by omega), if_neg (by omega)]; exact dL w i hw hi
      · rw [E, if_neg (by omega), if_neg (by omega)]; exact dA q hq
      · have hw : w < hN (yH y) := hw
        rw [E, if_neg (by omega), if_neg (by omega)]; exact dU w hw i hi hi6
      · have hw : hN (yH y) ≤ w := hw
        rw [E, if_neg (by omega), if_neg (by omega)]; exact dV w hw hw10 i hi
      · have hf := Y.2.1
        have g1 := fa (yF y) hf (by rw [x9]; exact d9)
        have g2 := fb' _ (by omega) g1
        rw [hK, zU_a _ _ (by decide), zU_a _ _ (by decide), g2]
        show _ = nI (max (yF y) (max (sN T (q1 T p)) (sN T (q2 T p)) + 1)) - 1
        rw [← eva, ← evb, show max (max (yF y) (va + 1)) (vb + 1) = max (yF y) (max va vb + 1) by omega]
  · -- asks
    rw [if_neg (by decide)] at L2
    obtain ⟨va, Ja, za, ka, -, -, La, va0, va5, ha⟩ := r_numbered (g := g) (lo := 0) (hi := 5) S Q L2 (by decide) (by decide)
    obtain ⟨vb, Jb, zb', kb, eb, Lb, vb9, hb, fb'⟩ := r_wordTold (g := g) S Q La
    have ea : Ja 98 = I2 98 := ka.1 98 (by decide) (by decide) (by decide)
    have e98 : ∀ j, Jb 98 j = I 98 j := fun j => by rw [eb, ea, x98]
    have ei : (92 : Int32) + nI va = nI (92 + va) := by rw [show (92 : Int32) = nI 92 from rfl, nI_add]
    have vi : vp_in (92 + nI va) (g.2.2 98) := by rw [ei, S.l 98 121 (by decide)]; exact vp_in_nI (by omega) (by decide)
    obtain ⟨K, hK⟩ : ∃ K, K = zU Jb 98 (92 + va) (Jb 98 (92 + va) ||| bitI vb) := ⟨_, rfl⟩
    have LK : PSt T K (mTok T 2 (fNum T 0 9) (mTok T 2 (fNum T 0 5) (.inl (q1 T p, F)))) := by rw [hK]; exact PSt_u Lb _ _
    obtain ⟨J', zE, kE, LE⟩ := r_endsLine S Q LK
    have E98 : J' 98 = K 98 := kE.1 98 (by decide) (by decide) (by decide)
    rw [show mTok T 3 fId (mTok T 2 (fNum T 0 9) (mTok T 2 (fNum T 0 5) (.inl (q1 T p, F)))) = chn T 3 p (fNum T 0 9 (q2 T p) (fNum T 0 5 (q1 T p) F)) from ch2 (k := 3) (by decide) rfl] at LE
    have eF : fNum T 0 9 (q2 T p) (fNum T 0 5 (q1 T p) F) = tF T 3 p y F := by unfold fNum; rw [dle0, dle0]; rfl
    have kJ : KT I J' := (((k2.t.tr ka.t).tr kb).tr (by rw [hK]; exact KT.u _ _)).tr kE.t
    refine ⟨J', eX12_hillLine (wX12_hillLine_0 ⟨S.k 95 12 (by decide), S.k 95 12 (by decide), _, _, z2, fun _ => ⟨fun _ => ⟨fun e => absurd e (by decide), fun _ => ⟨fun _ => ⟨S.k 95 12 (by decide), _, _, za, wX12_hillLine_67 ⟨S.k 95 12 (by decide), _, _, zb', fun _ => ⟨S.k 95 12 (by decide), 98, Q.p 95 10 98 (by decide), S.k 98 13 (by decide), vi, S.k 98 13 (by decide), vi, S.k 95 12 (by decide), J', ?_, rfl, rfl⟩, fun e => absurd e (by decide)⟩⟩, fun e => absurd e (by decide)⟩⟩, fun e => absurd e (by decide)⟩, fun e => absurd e (by decide)⟩), kJ, by unfold mEnd; rw [← eF]; exact LE, ⟨c, by rw [E98, hK, zU_k _ _ (by omega), e98]; exact hc, hc10⟩, fun hl hF0 => ?_⟩
    · rw [ei, nI_clamp (by omega)]
      rw [hK] at zE
      exact zE
    · obtain ⟨-, k1, k2', -⟩ := lF_n hl
      have k1 : sK T (q1 T p) = 2 := k1
      have k2' : sK T (q2 T p) = 2 := (k2' rfl).1
      obtain ⟨t1, t2, -⟩ := nt_0 (by decide) hF0
      obtain ⟨t3, t4, -⟩ := nt_0 (by decide) t1
      rw [decide_eq_true_eq] at t2 t4
      obtain ⟨⟨⟨d0, d1, d98⟩, dz, dO, dB, dL, dA, dU, dV, d9⟩, Y⟩ := Rd t3
      have eva := ha (q1 T p) F rfl k1 (Nat.zero_le _) t4
      have evb := hb (q2 T p) _ (mTok_t k1) k2' t2
      have hn := Y.1.2.1
      have w6 := Y.1.2.2.1
      refine DR0.k (I := K) ?_ E98 (kE.2.2 9 (by omega) (by decide))
      have E : ∀ j, K 98 j = if j = 92 + va then I 98 (92 + va) ||| bitI vb else I 98 j := fun j => by
        rw [hK]
        by_cases e2 : j = 92 + va
        · subst e2; rw [zU_s, if_pos rfl, e98]
        · rw [zU_k _ _ e2, if_neg e2, e98]
      refine ⟨⟨?_, ?_, ?_⟩, fun w hw => ?_, fun w hw => ?_, fun w hw => ?_, fun w i hw hi => ?_, fun q hq => ?_, fun w hw i hi hi6 => ?_, fun w hw hw10 i hi => ?_, ?_⟩
      · rw [E, if_neg (by omega)]; exact d0
      · rw [E, if_neg (by omega)]; exact d1
      · rw [E, if_neg (by omega)]; exact d98
      · have hw : w < hN (yH y) := hw
        rw [E, if_neg (by omega)]; exact dz w hw
      · have hw : w < hN (yH y) := hw
        rw [E, if_neg (by omega)]; exact dO w hw
      · rw [E, if_neg (by omega)]; exact dB w hw
      · have hw : w < hN (yH y) := hw
        have hi : i < hZ (yH y) w := hi
        have := (w6 w hw).2
        rw [E, if_neg (by omega)]; exact dL w i hw hi
      · show K 98 (92 + q) = upf (hA (yH y)) (sN T (q1 T p)) (hA (yH y) (sN T (q1 T p)) ||| bitI (sN T (q2 T p))) q
        rw [E, ← eva, ← evb]
        by_cases e : q = va
        · rw [if_pos (by omega), e, upf_s, dA va (by omega)]
        · rw [if_neg (by omega), upf_n _ _ e]; exact dA q hq
      · have hw : w < hN (yH y) := hw
        rw [E, if_neg (by omega)]; exact dU w hw i hi hi6
      · have hw : hN (yH y) ≤ w := hw
        rw [E, if_neg (by omega)]; exact dV w hw hw10 i hi
      · have hf := Y.2.1
        have g2 := fb' (yF y) hf (by rw [ka.2.2 9 (by omega) (by decide), x9]; exact d9)
        rw [hK, zU_a _ _ (by decide), g2, evb]; rfl
  · -- stones
    rw [if_neg (by decide)] at L2
    obtain ⟨va, Ja, za, ka, -, -, La, va1, va4, ha⟩ := r_numbered (g := g) (lo := 1) (hi := 4) S Q L2 (by decide) (by decide)
    have ea : ∀ j, Ja 98 j = I 98 j := fun j => by rw [ka.1 98 (by decide) (by decide) (by decide), x98]
    have i0 : vp_in 0 (g.2.2 98) := by rw [S.l 98 121 (by decide)]; exact vp_in_nI (n := 0) (by decide) (by decide)
    have LK : PSt T (zU Ja 98 0 (nI va)) (mTok T 2 (fNum T 1 4) (.inl (q1 T p, F))) := PSt_u La _ _
    obtain ⟨J', zE, kE, LE⟩ := r_endsLine S Q LK
    have E98 : J' 98 = (zU Ja 98 0 (nI va)) 98 := kE.1 98 (by decide) (by decide) (by decide)
    rw [show mTok T 3 fId (mTok T 2 (fNum T 1 4) (.inl (q1 T p, F))) = chn T 4 p (fNum T 1 4 (q1 T p) F) from ch1 (k := 4) (by decide) rfl] at LE
    refine ⟨J', eX12_hillLine (wX12_hillLine_0 ⟨S.k 95 12 (by decide), S.k 95 12 (by decide), _, _, z2, fun _ => ⟨fun e => absurd (by decide) e, fun _ => ⟨S.k 95 12 (by decide), 98, Q.p 95 10 98 (by decide), S.k 95 12 (by decide), _, _, za, S.k 98 13 (by decide), i0, S.k 95 12 (by decide), J', by rw [c0]; exact zE, rfl, rfl⟩⟩, fun e => absurd e (by decide)⟩), ((k2.t.tr ka.t).tr (KT.u _ _)).tr kE.t, LE, ⟨c, by rw [E98, zU_k _ _ (by decide), ea]; exact hc, hc10⟩, fun hl hF0 => ?_⟩
    obtain ⟨-, k1, -, -⟩ := lF_n hl
    have k1 : sK T (q1 T p) = 2 := k1
    obtain ⟨t1, t2, -⟩ := nt_0 (by decide) hF0
    rw [decide_eq_true_eq] at t2
    obtain ⟨⟨⟨d0, d1, d98⟩, dz, dO, dB, dL, dA, dU, dV, d9⟩, Y⟩ := Rd t1
    have eva := ha (q1 T p) F rfl k1 t2.1 t2.2
    refine DR0.k (I := zU Ja 98 0 (nI va)) ?_ E98 (kE.2.2 9 (by omega) (by decide))
    have E : ∀ j, j ≠ 0 → (zU Ja 98 0 (nI va)) 98 j = I 98 j := fun j hj => by rw [zU_k _ _ hj, ea]
    refine ⟨⟨by rw [zU_s, eva]; rfl, by rw [E 1 (by decide)]; exact d1, by rw [E 98 (by decide)]; exact d98⟩, fun w hw => by rw [E _ (by omega)]; exact dz w hw, fun w hw => by rw [E _ (by omega)]; exact dO w hw, fun w hw => by rw [E _ (by omega)]; exact dB w hw, fun w i hw hi => by rw [E _ (by omega)]; exact dL w i hw hi, fun q hq => by rw [E _ (by omega)]; exact dA q hq, fun w hw i hi hi6 => by rw [E _ (by omega)]; exact dU w hw i hi hi6, fun w hw hw10 i hi => by rw [E _ (by omega)]; exact dV w hw hw10 i hi, ?_⟩
    rw [zU_a _ _ (by decide), ka.2.2 9 (by omega) (by decide), x9]; exact d9
end RHILL
