/-! ===== the reference reads: tokens one by one ===== -/
abbrev Md : Type := (Nat × FS) ⊕ Nat
/-- a token of a kind is taken -/
def mTok (T : Tp) (k : Nat) (f : Nat → FS → FS) : Md → Md
  | .inl rF => if sK T rF.1 = k then .inl (sE T rF.1, f rF.1 rF.2) else .inr (sS T rF.1)
  | .inr q => .inr q
def fNum (T : Tp) (lo hi : Nat) (r : Nat) (F : FS) : FS := nt F (decide (lo ≤ sN T r ∧ sN T r ≤ hi)) 2 (sS T r)
def fRow (T : Tp) (most : Nat) (r : Nat) (F : FS) : FS := nt F (rowOk T r most) 2 (sS T r)
def mAlso (c : Bool) (k q : Nat) : Md → Md
  | .inl rF => .inl (rF.1, nt rF.2 c k q)
  | .inr x => .inr x
/-- where the reference stands: at a token, or wrong -/
def PSt (T : Tp) (I : Nat → Nat → Int32) : Md → Prop
  | .inl rF => TpR I T ∧ rF.1 ≤ T.1 ∧ I 95 8 = 0 ∧ LkD T I rF.1 ∧ I 96 5 = rF.2.1 ∧ I 96 6 = rF.2.2 ∧ Fw rF.2 (sS T rF.1)
  | .inr q => TpR I T ∧ I 95 8 = 1 ∧ I 96 5 = 1 ∧ I 96 6 = nI q
def KL (I J : Nat → Nat → Int32) : Prop := (∀ c, c ≠ 95 → c ≠ 96 → c ≠ 99 → J c = I c) ∧ (∀ k, k ≠ 5 → k ≠ 6 → J 96 k = I 96 k) ∧ ∀ k, (k < 3 ∨ 8 < k) → k ≠ 12 → J 95 k = I 95 k
theorem KL.rf (I : Nat → Nat → Int32) : KL I I := ⟨fun _ _ _ _ => rfl, fun _ _ _ => rfl, fun _ _ _ => rfl⟩
theorem KL.tr {I J K : Nat → Nat → Int32} (h : KL I J) (h2 : KL J K) : KL I K := ⟨fun c a1 a2 a3 => (h2.1 c a1 a2 a3).trans (h.1 c a1 a2 a3), fun k a b => (h2.2.1 k a b).trans (h.2.1 k a b), fun k a b => (h2.2.2 k a b).trans (h.2.2 k a b)⟩
theorem K95.l {I J : Nat → Nat → Int32} (h : K95 I J) : KL I J := ⟨fun c a _ _ => h.1 c a, fun k _ _ => by rw [h.1 96 (by decide)], fun k hk _ => h.2 k (by omega)⟩
theorem TpR.l {I J : Nat → Nat → Int32} {T : Tp} (h : TpR I T) (k : KL I J) : TpR J T := ⟨h.1, (k.2.2 2 (by omega) (by decide)).trans h.2.1, fun q hq => by rw [k.2.1 (10 + q) (by omega) (by omega)]; exact h.2.2 q hq⟩
theorem rk_1 {k : Nat} (hk : k ≤ 4) : rk k = 3 ↔ k = 1 := by unfold rk; repeat' split
                                                             all_goals omega
theorem rk_2 {k : Nat} (hk : k ≤ 4) : rk k = 1 ↔ k = 2 := by unfold rk; repeat' split
                                                             all_goals omega
theorem rk_3 {k : Nat} (hk : k ≤ 4) : rk k = 2 ↔ k = 3 := by unfold rk; repeat' split
                                                             all_goals omega
theorem rk_0 {k : Nat} (hk : k ≤ 4) : rk k = 0 ↔ k = 0 := by unfold rk; repeat' split
                                                             all_goals omega
theorem rk_le {k : Nat} (hk : k ≤ 4) : rk k ≤ 4 := by unfold rk; repeat' split
                                                      all_goals omega
section ROPS
variable {g : zG} {I : Nat → Nat → Int32} {P : Nat → Nat → Option Nat} {T : Tp} {F : FS} {r : Nat}
theorem mTok_t {k : Nat} {f : Nat → FS → FS} (h : sK T r = k) : mTok T k f (.inl (r, F)) = .inl (sE T r, f r F) := by
  show (if sK T r = k then (Sum.inl (sE T r, f r F) : Md) else .inr (sS T r)) = _
  rw [if_pos h]
theorem mTok_f {k : Nat} {f : Nat → FS → FS} (h : sK T r ≠ k) : mTok T k f (.inl (r, F)) = .inr (sS T r) := by
  show (if sK T r = k then (Sum.inl (sE T r, f r F) : Md) else .inr (sS T r)) = _
  rw [if_neg h]
theorem PSt_l (h : PSt T I (.inl (r, F))) : TpR I T ∧ r ≤ T.1 ∧ I 95 8 = 0 ∧ LkD T I r ∧ I 96 5 = F.1 ∧ I 96 6 = F.2 ∧ Fw F (sS T r) := h
theorem c5 : (5 : Int32).toNatClampNeg = 5 := by decide
theorem c6 : (6 : Int32).toNatClampNeg = 6 := by decide
theorem c0 : (0 : Int32).toNatClampNeg = 0 := by decide
theorem c1 : (1 : Int32).toNatClampNeg = 1 := by decide
theorem LkD.tk {I : Nat → Nat → Int32} (D : LkD T I r) (k : Nat) (hk : k ≤ 4) (x : Int32) (hx : x = nI (rk k)) : I 95 5 = x ↔ sK T r = k := by
  have h1 := sK_le (T := T) (p := r)
  have h2 := rk_le h1
  have h3 := rk_le hk
  rw [D.2.2.1, hx, nI_eq (by omega) (by omega)]
  constructor
  · intro e
    unfold rk at e
    repeat' split at e
    all_goals omega
  · intro e; rw [e]
/-- the token behind -/
theorem r_adv (S : Sg g) (Q : Sp P) (h : PSt T I (.inl (r, F))) (h0 : sK T r ≠ 0) {F' : FS} {K : Nat → Nat → Int32} (kK : KL I K) (k3 : K 95 3 = I 95 3) (k8 : K 95 8 = 0) (f5 : K 96 5 = F'.1) (f6 : K 96 6 = F'.2) (hF : Fw F' (sE T r)) : ∃ J, Cl mX12_advance [.ref 95] (g, K, P) none (g, J, P) ∧ K95 K J ∧ PSt T J (.inl (sE T r, F')) := by
  obtain ⟨C, hr, -, D, -⟩ := PSt_l h
  have b := sE_b hr
  obtain ⟨J, z, k, L⟩ := r_advance (p := sE T r) S Q (C.l kK) b.2.1 (by rw [k3]; exact D.1)
  refine ⟨J, z, k, (C.l kK).k k, b.2.1, by rw [k.2 8 (by omega)]; exact k8, L, by rw [k.1 96 (by decide)]; exact f5, by rw [k.1 96 (by decide)]; exact f6, ?_⟩
  show Fw F' (sS T (sE T r))
  intro hne
  obtain ⟨x, x1, x2⟩ := hF hne
  exact ⟨x, by have := (sS_b (T := T) (p := sE T r) b.2.1).1; omega, x2⟩
/-- no line goes on so -/
theorem r_ends (S : Sg g) (Q : Sp P) (h : PSt T I (.inl (r, F))) : ∃ J, Cl mX12_ends [.ref 95] (g, I, P) none (g, J, P) ∧ KL I J ∧ (J 99 = I 99 ∧ ∀ k, k ≠ 8 → J 95 k = I 95 k) ∧ PSt T J (.inr (sS T r)) := by
  obtain ⟨C, hr, h8, D, -⟩ := PSt_l h
  have i5 : vp_in 5 (g.2.2 96) := by rw [S.l 96 4968 (by decide)]; exact vp_in_nI (n := 5) (by decide) (by decide)
  have i6 : vp_in 6 (g.2.2 96) := by rw [S.l 96 4968 (by decide)]; exact vp_in_nI (n := 6) (by decide) (by decide)
  obtain ⟨J, hJ⟩ : ∃ J, J = zU (zU (zU I 95 8 1) 96 5 1) 96 6 (nI (sS T r)) := ⟨_, rfl⟩
  have k : KL I J := ⟨fun c c1 c2 _ => by rw [hJ]; funext j; rw [zU_a _ _ c2, zU_a _ _ c2, zU_a _ _ c1], fun k k5 k6 => by rw [hJ, zU_k _ _ k6, zU_k _ _ k5, zU_a _ _ (by decide)], fun k hk _ => by rw [hJ, zU_a _ _ (by decide), zU_a _ _ (by decide), zU_k _ _ (by omega)]⟩
  refine ⟨J, eX12_ends (wX12_ends_0 ⟨S.k 95 12 (by decide), fun _ => ⟨S.k 95 12 (by decide), S.k 95 12 (by decide), 96, Q.p 95 0 96 (by decide), S.k 96 13 (by decide), i5, S.k 95 12 (by decide), 96, Q.p 95 0 96 (by decide), S.k 95 12 (by decide), S.k 96 13 (by decide), i6, rfl, ?_⟩, fun e => absurd h8 e⟩), k, ⟨by rw [hJ]; funext j; rw [zU_a _ _ (by decide), zU_a _ _ (by decide), zU_a _ _ (by decide)], fun k hk => by rw [hJ, zU_a _ _ (by decide), zU_a _ _ (by decide), zU_k _ _ hk]⟩, C.l k, ?_, ?_, ?_⟩
  · rw [c5, c6, zU_a (f := zU I 95 8 1) (a := 96) (k := 5) (b := 95) (j := 4) _ (by decide), zU_k (f := I) (a := 95) (k := 8) (b := 95) (j := 4) _ (by decide), D.2.1, hJ]
  · rw [hJ, zU_a _ _ (by decide), zU_a _ _ (by decide), zU_s]
  · rw [hJ, zU_k _ _ (by decide), zU_s]
  · rw [hJ, zU_s]
theorem r_endsW {q : Nat} (S : Sg g) (h : PSt T I (.inr q)) : Cl mX12_ends [.ref 95] (g, I, P) none (g, I, P) :=
  eX12_ends (wX12_ends_0 ⟨S.k 95 12 (by decide), fun e => absurd e (by rw [h.2.1]; decide), fun _ => ⟨rfl, rfl⟩⟩)
theorem r_also {k q : Nat} (S : Sg g) (Q : Sp P) (h8 : I 95 8 = 0) (f5 : I 96 5 = F.1) (f6 : I 96 6 = F.2) (hF : Fw F q) (hq : q < 2 ^ 31) : ∃ J, Cl mX12_also [.ref 95, .int (nI k), .int (nI q)] (g, I, P) none (g, J, P) ∧ (∀ c, c ≠ 96 → J c = I c) ∧ (∀ k, k ≠ 5 → k ≠ 6 → J 96 k = I 96 k) ∧ J 96 5 = (nt F false k q).1 ∧ J 96 6 = (nt F false k q).2 := by
  have i5 : vp_in 5 (g.2.2 96) := by rw [S.l 96 4968 (by decide)]; exact vp_in_nI (n := 5) (by decide) (by decide)
  have i6 : vp_in 6 (g.2.2 96) := by rw [S.l 96 4968 (by decide)]; exact vp_in_nI (n := 6) (by decide) (by decide)
  by_cases h0 : F.1 = 0
  · rw [nt_f h0]
    refine ⟨zU (zU I 96 5 (nI k)) 96 6 (nI q), eX12_also (wX12_also_0 ⟨S.k 95 12 (by decide), fun e => absurd h8 e, fun _ => ⟨S.k 95 12 (by decide), 96, Q.p 95 0 96 (by decide), S.k 96 13 (by decide), i5, fun _ => ⟨S.k 95 12 (by decide), 96, Q.p 95 0 96 (by decide), S.k 96 13 (by decide), i5, S.k 95 12 (by decide), 96, Q.p 95 0 96 (by decide), S.k 96 13 (by decide), i6, rfl, by rw [c5, c6]⟩, fun e => absurd (by rw [c5, f5]; exact h0) e⟩⟩), fun c hc => by funext j; rw [zU_a _ _ hc, zU_a _ _ hc], fun k a b => by rw [zU_k _ _ b, zU_k _ _ a], by rw [zU_k _ _ (by decide), zU_s], zU_s _ _ _ _⟩
  · rw [nt_n h0]
    obtain ⟨x, x1, x2⟩ := hF h0
    refine ⟨I, eX12_also (wX12_also_0 ⟨S.k 95 12 (by decide), fun e => absurd h8 e, fun _ => ⟨S.k 95 12 (by decide), 96, Q.p 95 0 96 (by decide), S.k 96 13 (by decide), i5, fun e => absurd (by rw [c5] at e; exact f5.symm.trans e) h0, fun _ => ⟨S.k 95 12 (by decide), 96, Q.p 95 0 96 (by decide), S.k 96 13 (by decide), i6, fun _ => ⟨rfl, rfl⟩, fun e => absurd (by rw [c6, f6, x2]; exact nI_lt x1 hq) e⟩⟩⟩), fun _ _ => rfl, fun _ _ _ => rfl, f5, f6⟩
theorem r_alsoW {x y : Int32} {q : Nat} (S : Sg g) (h : PSt T I (.inr q)) : Cl mX12_also [.ref 95, .int x, .int y] (g, I, P) none (g, I, P) :=
  eX12_also (wX12_also_0 ⟨S.k 95 12 (by decide), fun _ => ⟨rfl, rfl⟩, fun e => absurd e (by rw [h.2.1]; decide)⟩)
/-- a fault is told of a place ahead -/
theorem r_alsoM {k q : Nat} {m : Md} (S : Sg g) (Q : Sp P) (h : PSt T I m) (hm : ∀ r F, m = .inl (r, F) → Fw F q ∧ q < sS T r) : ∃ J, Cl mX12_also [.ref 95, .int (nI k), .int (nI q)] (g, I, P) none (g, J, P) ∧ KL I J ∧ J 95 = I 95 ∧ PSt T J (mAlso false k q m) := by
  cases m with
  | inr x => exact ⟨I, r_alsoW S h, KL.rf I, rfl, h⟩
  | inl rF =>
    obtain ⟨r, F⟩ := rF
    obtain ⟨h1, h2⟩ := hm r F rfl
    obtain ⟨C, hr, h8, D, f5, f6, hF⟩ := PSt_l h
    have b := sS_b hr
    have h6 := C.1
    obtain ⟨J, z, a1, a2, a3, a4⟩ := r_also (g := g) (P := P) (k := k) (q := q) S Q h8 f5 f6 h1 (by have : r ≤ T.1 := hr; omega)
    have kl : KL I J := ⟨fun c _ c2 _ => a1 c c2, a2, fun k _ _ => by rw [a1 95 (by decide)]⟩
    refine ⟨J, z, kl, a1 95 (by decide), C.l kl, hr, by rw [a1 95 (by decide)]; exact h8, by unfold LkD; rw [a1 95 (by decide)]; exact D, a3, a4, ?_⟩
    exact Fw.nt hF h2 (Nat.le_refl _)
theorem r_numbered {lo hi : Nat} {m : Md} (S : Sg g) (Q : Sp P) (h : PSt T I m) (hlh : lo ≤ hi) (hhi : hi < 2 ^ 31) : ∃ v J, Cl mX12_numbered [.ref 95, .int (nI lo), .int (nI hi)] (g, I, P) (some (.int (nI v))) (g, J, P) ∧ KL I J ∧ J 99 = I 99 ∧ J 95 12 = I 95 12 ∧ PSt T J (mTok T 2 (fNum T lo hi) m) ∧ lo ≤ v ∧ v ≤ hi ∧ ∀ r F, m = .inl (r, F) → sK T r = 2 → lo ≤ sN T r → sN T r ≤ hi → v = sN T r := by
  cases m with
  | inr q => exact ⟨lo, I, eX12_numbered (wX12_numbered_0 ⟨S.k 95 12 (by decide), fun _ => ⟨S.k 95 12 (by decide), _, r_endsW S h, rfl, rfl⟩, fun e => absurd e (by rw [h.2.1]; decide)⟩), KL.rf I, rfl, rfl, h, Nat.le_refl _, hlh, fun r F e => (nomatch e)⟩
  | inl rF =>
    obtain ⟨r, F⟩ := rF
    have h' := h
    obtain ⟨C, hr, h8, D, f5, f6, hF⟩ := PSt_l h
    have hr : r ≤ T.1 := hr
    have tk : I 95 5 = 1 ↔ sK T r = 2 := D.tk 2 (by decide) 1 rfl
    have b := sS_b hr
    have h600 := C.1
    by_cases h2 : sK T r = 2
    · have em : mTok T 2 (fNum T lo hi) (.inl (r, F)) = .inl (sE T r, fNum T lo hi r F) := mTok_t h2
      rw [em]
      have hn := sN_le hr h2
      have e6 : I 95 6 = nI (sN T r) := D.2.2.2.2 h2
      have gg := sK_g hr (by omega)
      have bE := sE_b hr
      have hFE : Fw F (sE T r) := fun hne => by obtain ⟨x, x1, x2⟩ := hF hne; exact ⟨x, by have x1 : x < sS T r := x1; omega, x2⟩
      by_cases hc : lo ≤ sN T r ∧ sN T r ≤ hi
      · have eF : fNum T lo hi r F = F := by unfold fNum; rw [decide_eq_true hc, nt_t]
        obtain ⟨J, z, k, L⟩ := r_adv (F' := F) S Q h' (by omega) (KL.rf I) rfl h8 f5 f6 hFE
        have ci : ∀ K, Cl mX12_isIn [.int (I 95 6), .int (nI lo), .int (nI hi)] (g, K, P) (some (.int 1)) (g, K, P) := fun K => by
          have := r_isInN (g := g) (I := K) (P := P) (n := sN T r) (lo := lo) (hi := hi) (by omega) (by omega) hhi
          rw [decide_eq_true hc] at this
          rw [e6]; exact this
        refine ⟨sN T r, J, eX12_numbered (wX12_numbered_0 ⟨S.k 95 12 (by decide), fun e => absurd h8 e, fun _ => ⟨S.k 95 12 (by decide), fun _ => ⟨S.k 95 12 (by decide), _, ci I, fun _ => ⟨S.k 95 12 (by decide), _, z, _, ci J, fun e => absurd e (by decide), fun _ => ⟨by rw [e6], rfl⟩⟩, fun e => absurd e (by decide)⟩, fun e => absurd (tk.mpr h2) e⟩⟩), k.l, k.1 99 (by decide), k.2 12 (by omega), by rw [eF]; exact L, hc.1, hc.2, fun r' F' e _ _ _ => by cases e; rfl⟩
      · obtain ⟨I20, z20, a1, a2, a3, a4⟩ := r_also (g := g) (P := P) (k := 2) (q := sS T r) S Q h8 f5 f6 hF (by omega)
        have kl : KL I I20 := ⟨fun c _ c2 _ => a1 c c2, a2, fun k _ _ => by rw [a1 95 (by decide)]⟩
        have eF : fNum T lo hi r F = nt F false 2 (sS T r) := by unfold fNum; rw [decide_eq_false hc]
        obtain ⟨J, z, k, L⟩ := r_adv (F' := fNum T lo hi r F) S Q h' (by omega) kl (by rw [a1 95 (by decide)]) (by rw [a1 95 (by decide)]; exact h8) (by rw [eF]; exact a3) (by rw [eF]; exact a4) (by rw [eF]; exact Fw.nt hF (by omega) (by omega))
        have ci : ∀ K, Cl mX12_isIn [.int (I 95 6), .int (nI lo), .int (nI hi)] (g, K, P) (some (.int 0)) (g, K, P) := fun K => by
          have := r_isInN (g := g) (I := K) (P := P) (n := sN T r) (lo := lo) (hi := hi) (by omega) (by omega) hhi
          rw [decide_eq_false hc] at this
          rw [e6]; exact this
        refine ⟨lo, J, eX12_numbered (wX12_numbered_0 ⟨S.k 95 12 (by decide), fun e => absurd h8 e, fun _ => ⟨S.k 95 12 (by decide), fun _ => ⟨S.k 95 12 (by decide), _, ci I, fun e => absurd rfl e, fun _ => ⟨S.k 95 12 (by decide), S.k 95 12 (by decide), _, by rw [D.2.1]; exact z20, S.k 95 12 (by decide), _, z, _, ci J, fun _ => ⟨rfl, rfl⟩, fun e => absurd rfl e⟩⟩, fun e => absurd (tk.mpr h2) e⟩⟩), kl.tr k.l, by rw [k.1 99 (by decide), a1 99 (by decide)], by rw [k.2 12 (by omega), a1 95 (by decide)], L, Nat.le_refl _, hlh, fun r' F' e _ c1 c2 => by cases e; exact absurd ⟨c1, c2⟩ hc⟩
    · have em : mTok T 2 (fNum T lo hi) (.inl (r, F)) = .inr (sS T r) := mTok_f h2
      rw [em]
      obtain ⟨J, z, k, f, L⟩ := r_ends S Q h'
      exact ⟨lo, J, eX12_numbered (wX12_numbered_0 ⟨S.k 95 12 (by decide), fun e => absurd h8 e, fun _ => ⟨S.k 95 12 (by decide), fun e => absurd (tk.mp e) h2, fun _ => ⟨S.k 95 12 (by decide), _, z, rfl, rfl⟩⟩⟩), k, f.1, f.2 12 (by decide), L, Nat.le_refl _, hlh, fun r' F' e c => by cases e; exact absurd c h2⟩
/-- a word of some -/
theorem r_wordIn {so : Nat} (S : Sg g) (Q : Sp P) (h : PSt T I (.inl (r, F))) (hso : so < 4) : ∃ J, Cl mX12_wordIn [.ref 95, .int (nI (kLo so)), .int (nI (kHi so))] (g, I, P) (some (.int (nI (kS T so r)))) (g, J, P) ∧ KL I J ∧ J 99 = I 99 ∧ J 95 12 = I 95 12 ∧ PSt T J (if kS T so r = 0 then .inr (sS T r) else .inl (sE T r, F)) := by
  have h' := h
  obtain ⟨C, hr, h8, D, f5, f6, hF⟩ := PSt_l h
  have hr : r ≤ T.1 := hr
  have tk : I 95 5 = 3 ↔ sK T r = 1 := D.tk 1 (by decide) 3 rfl
  have bE := sE_b hr
  have b := sS_b hr
  have lo : 1 ≤ kLo so ∧ kHi so ≤ 11 ∧ kLo so ≤ 11 := by
    rcases (show so = 0 ∨ so = 1 ∨ so = 2 ∨ so = 3 by omega) with rfl | rfl | rfl | rfl <;> decide
  by_cases h1 : sK T r = 1
  · have e7 : I 95 7 = nI (sW T r) := D.2.2.2.1 h1
    have wl := sW_le T r
    have ci := r_isInN (g := g) (I := I) (P := P) (n := sW T r) (lo := kLo so) (hi := kHi so) (by omega) (by omega) (by omega)
    rw [← e7] at ci
    by_cases hc : kLo so ≤ sW T r ∧ sW T r ≤ kHi so
    · have ek : kS T so r = sW T r := by unfold kS; rw [if_pos ⟨h1, hc⟩]
      rw [ek, if_neg (by omega)]
      have gg := sK_g hr (by omega)
      have hFE : Fw F (sE T r) := fun hne => by obtain ⟨x, x1, x2⟩ := hF hne; exact ⟨x, by have x1 : x < sS T r := x1; omega, x2⟩
      obtain ⟨J, z, k, L⟩ := r_adv (F' := F) S Q h' (by omega) (KL.rf I) rfl h8 f5 f6 hFE
      rw [decide_eq_true hc] at ci
      exact ⟨J, eX12_wordIn (wX12_wordIn_0 ⟨S.k 95 12 (by decide), fun e => absurd h8 e, fun _ => ⟨S.k 95 12 (by decide), fun e => absurd (tk.mpr h1) e, fun _ => ⟨S.k 95 12 (by decide), _, ci, fun _ => ⟨S.k 95 12 (by decide), S.k 95 12 (by decide), _, z, by rw [e7], rfl⟩, fun e => absurd e (by decide)⟩⟩⟩), k.l, k.1 99 (by decide), k.2 12 (by omega), L⟩
    · have ek : kS T so r = 0 := by unfold kS; rw [if_neg (fun e => hc e.2)]
      rw [ek, if_pos rfl]
      obtain ⟨J, z, k, f, L⟩ := r_ends S Q h'
      rw [decide_eq_false hc] at ci
      exact ⟨J, eX12_wordIn (wX12_wordIn_0 ⟨S.k 95 12 (by decide), fun e => absurd h8 e, fun _ => ⟨S.k 95 12 (by decide), fun e => absurd (tk.mpr h1) e, fun _ => ⟨S.k 95 12 (by decide), _, ci, fun e => absurd rfl e, fun _ => ⟨S.k 95 12 (by decide), _, z, rfl, rfl⟩⟩⟩⟩), k, f.1, f.2 12 (by decide), L⟩
  · have ek : kS T so r = 0 := by unfold kS; rw [if_neg (fun e => h1 e.1)]
    rw [ek, if_pos rfl]
    obtain ⟨J, z, k, f, L⟩ := r_ends S Q h'
    exact ⟨J, eX12_wordIn (wX12_wordIn_0 ⟨S.k 95 12 (by decide), fun e => absurd h8 e, fun _ => ⟨S.k 95 12 (by decide), fun _ => ⟨S.k 95 12 (by decide), _, z, rfl, rfl⟩, fun e => absurd (tk.mp e) h1⟩⟩), k, f.1, f.2 12 (by decide), L⟩
def fId (_ : Nat) (F : FS) : FS := F
theorem r_endsLine {m : Md} (S : Sg g) (Q : Sp P) (h : PSt T I m) : ∃ J, Cl mX12_endsLine [.ref 95] (g, I, P) none (g, J, P) ∧ KL I J ∧ PSt T J (mTok T 3 fId m) := by
  cases m with
  | inr q => exact ⟨I, eX12_endsLine (wX12_endsLine_0 ⟨S.k 95 12 (by decide), fun _ => ⟨S.k 95 12 (by decide), _, r_endsW S h, rfl, rfl⟩, fun e => absurd e (by rw [h.2.1]; decide)⟩), KL.rf I, h⟩
  | inl rF =>
    obtain ⟨r, F⟩ := rF
    have h' := h
    obtain ⟨C, hr, h8, D, f5, f6, hF⟩ := PSt_l h
    have hr : r ≤ T.1 := hr
    have tk : I 95 5 = 2 ↔ sK T r = 3 := D.tk 3 (by decide) 2 rfl
    have bE := sE_b hr
    by_cases h3 : sK T r = 3
    · have em : mTok T 3 fId (.inl (r, F)) = .inl (sE T r, F) := mTok_t h3
      rw [em]
      have gg := sK_g hr (by omega)
      have hFE : Fw F (sE T r) := fun hne => by obtain ⟨x, x1, x2⟩ := hF hne; exact ⟨x, by have x1 : x < sS T r := x1; omega, x2⟩
      obtain ⟨J, z, k, L⟩ := r_adv (F' := F) S Q h' (by omega) (KL.rf I) rfl h8 f5 f6 hFE
      exact ⟨J, eX12_endsLine (wX12_endsLine_0 ⟨S.k 95 12 (by decide), fun e => absurd h8 e, fun _ => ⟨S.k 95 12 (by decide), fun e => absurd (tk.mpr h3) e, fun _ => ⟨S.k 95 12 (by decide), _, z, rfl, rfl⟩⟩⟩), k.l, L⟩
    · have em : mTok T 3 fId (.inl (r, F)) = .inr (sS T r) := mTok_f h3
      rw [em]
      obtain ⟨J, z, k, f, L⟩ := r_ends S Q h'
      exact ⟨J, eX12_endsLine (wX12_endsLine_0 ⟨S.k 95 12 (by decide), fun e => absurd h8 e, fun _ => ⟨S.k 95 12 (by decide), fun _ => ⟨S.k 95 12 (by decide), _, z, rfl, rfl⟩, fun e => absurd (tk.mp e) h3⟩⟩), k, L⟩
/-- a row of letters is told -/
theorem r_rowTold {most : Nat} {m : Md} (S : Sg g) (Q : Sp P) (h : PSt T I m) (hm : most ≤ 12) : ∃ mm J, Cl mX12_rowTold [.ref 95, .int (nI most)] (g, I, P) none (g, J, P) ∧ KL I J ∧ PSt T J (mTok T 1 (fRow T most) m) ∧ J 95 12 = nI mm ∧ mm ≤ most ∧ ∀ r F, m = .inl (r, F) → sK T r = 1 → rowOk T r most = true → mm = sZ T r ∧ ∀ i, i < sZ T r → J 99 i = nI (lts T r i) := by
  have kl0 : ∀ K, KL K (zU K 95 12 0) := fun K => ⟨fun c c1 _ _ => by funext j; rw [zU_a _ _ c1], fun k _ _ => by rw [zU_a _ _ (by decide)], fun k _ h12 => by rw [zU_k _ _ h12]⟩
  have f0 : ∀ k, k ≠ 12 → zU I 95 12 0 95 k = I 95 k := fun k hk => by rw [zU_k _ _ hk]
  cases m with
  | inr q =>
    have h2 : PSt T (zU I 95 12 0) (.inr q) := ⟨h.1.l (kl0 I), by rw [f0 8 (by decide)]; exact h.2.1, by rw [zU_a _ _ (by decide)]; exact h.2.2.1, by rw [zU_a _ _ (by decide)]; exact h.2.2.2⟩
    exact ⟨0, zU I 95 12 0, eX12_rowTold (wX12_rowTold_0 ⟨S.k 95 12 (by decide), S.k 95 12 (by decide), fun _ => ⟨S.k 95 12 (by decide), _, r_endsW S h2, rfl, rfl⟩, fun e => absurd e (by rw [f0 8 (by decide), h.2.1]; decide)⟩), kl0 I, h2, zU_s _ _ _ _, Nat.zero_le _, fun r F e => (nomatch e)⟩
  | inl rF =>
    obtain ⟨r, F⟩ := rF
    obtain ⟨C, hr, h8, D, f5, f6, hF⟩ := PSt_l h
    have hr : r ≤ T.1 := hr
    have h600 := C.1
    have bE := sE_b hr
    have b := sS_b hr
    obtain ⟨I0, hI0⟩ : ∃ I0, I0 = zU I 95 12 0 := ⟨_, rfl⟩
    have k0 : KL I I0 := by rw [hI0]; exact kl0 I
    have g0 : ∀ k, k ≠ 12 → I0 95 k = I 95 k := fun k hk => by rw [hI0]; exact f0 k hk
    have D0 : LkD T I0 r := by unfold LkD; rw [g0 3 (by decide), g0 4 (by decide), g0 5 (by decide), g0 6 (by decide), g0 7 (by decide)]; exact D
    have h0 : PSt T I0 (.inl (r, F)) := ⟨C.l k0, hr, by rw [g0 8 (by decide)]; exact h8, D0, by rw [hI0, zU_a _ _ (by decide)]; exact f5, by rw [hI0, zU_a _ _ (by decide)]; exact f6, hF⟩
    have tk : I0 95 5 = 3 ↔ sK T r = 1 := D0.tk 1 (by decide) 3 rfl
    by_cases h1 : sK T r = 1
    · have em : mTok T 1 (fRow T most) (.inl (r, F)) = .inl (sE T r, fRow T most r F) := mTok_t h1
      rw [em]
      have gg := sK_g hr (by omega)
      have hLt := sK_1 hr h1
      have hz : sS T r + sZ T r = sE T r := by unfold sZ; omega
      have hFE : Fw F (sE T r) := fun hne => by obtain ⟨x, x1, x2⟩ := hF hne; exact ⟨x, by have x1 : x < sS T r := x1; omega, x2⟩
      -- frames inside the loop: only letters and their number
      have fine : ∀ (K : Nat → Nat → Int32), (∀ c, c ≠ 95 → c ≠ 99 → K c = I0 c) → (∀ k, k ≠ 12 → K 95 k = I0 95 k) → KL I K ∧ K 95 3 = I 95 3 ∧ K 95 8 = 0 ∧ K 96 5 = F.1 ∧ K 96 6 = F.2 ∧ K 95 4 = nI (sS T r) ∧ TpR K T := by
        intro K a1 a2
        have kl : KL I K := k0.tr ⟨fun c c1 _ c3 => a1 c c1 c3, fun k _ _ => by rw [a1 96 (by decide) (by decide)], fun k _ h12 => a2 k h12⟩
        exact ⟨kl, by rw [a2 3 (by decide), g0 3 (by decide)], by rw [a2 8 (by decide), g0 8 (by decide)]; exact h8, by rw [a1 96 (by decide) (by decide)]; exact h0.2.2.2.2.1, by rw [a1 96 (by decide) (by decide)]; exact h0.2.2.2.2.2.1, by rw [a2 4 (by decide), g0 4 (by decide)]; exact D.2.1, C.l kl⟩
      have hI : PSt T I (.inl (r, F)) := ⟨C, hr, h8, D, f5, f6, hF⟩
      -- the row isn't one
      have bad : ∀ (K : Nat → Nat → Int32) (x : Int32) (mm : Nat), rowOk T r most = false → (∀ c, c ≠ 95 → c ≠ 99 → K c = I0 c) → (∀ k, k ≠ 12 → K 95 k = I0 95 k) → K 95 12 = nI mm → mm ≤ most → ∃ mm J, Zt none mX12_rowTold 0 0 49 [(0, .ref 95), (2, .int 0), (3, .int x)] [] (g, K, P) none (g, J, P) ∧ KL I J ∧ PSt T J (.inl (sE T r, fRow T most r F)) ∧ J 95 12 = nI mm ∧ mm ≤ most ∧ ∀ r' F', (Sum.inl (r, F) : Md) = .inl (r', F') → sK T r' = 1 → rowOk T r' most = true → mm = sZ T r' ∧ ∀ i, i < sZ T r' → J 99 i = nI (lts T r' i) := by
        intro K x mm hbad a1 a2 e12 hmm
        obtain ⟨kl, k3, k8, x5, x6, x4, CK⟩ := fine K a1 a2
        obtain ⟨I7, z7, b1, b2, b3, b4⟩ := r_also (g := g) (P := P) (k := 2) (q := sS T r) S Q k8 x5 x6 hF (by omega)
        have kl7 : KL I I7 := kl.tr ⟨fun c _ c2 _ => b1 c c2, b2, fun k _ _ => by rw [b1 95 (by decide)]⟩
        have eF : fRow T most r F = nt F false 2 (sS T r) := by unfold fRow; rw [hbad]
        obtain ⟨J, zJ, kJ, L⟩ := r_adv (F' := fRow T most r F) S Q hI (by omega) kl7 (by rw [b1 95 (by decide)]; exact k3) (by rw [b1 95 (by decide)]; exact k8) (by rw [eF]; exact b3) (by rw [eF]; exact b4) (by rw [eF]; exact Fw.nt hF (by omega) (by omega))
        exact ⟨mm, J, wX12_rowTold_49 ⟨S.k 95 12 (by decide), fun _ => ⟨fun e => absurd rfl e, fun _ => ⟨S.k 95 12 (by decide), S.k 95 12 (by decide), _, by rw [x4]; exact z7, S.k 95 12 (by decide), _, zJ, rfl, rfl⟩⟩, fun _ => ⟨fun _ => ⟨fun e => absurd rfl e, fun _ => ⟨S.k 95 12 (by decide), S.k 95 12 (by decide), _, by rw [x4]; exact z7, S.k 95 12 (by decide), _, zJ, rfl, rfl⟩⟩, fun e => absurd rfl e⟩⟩, kl7.tr kJ.l, L, by rw [kJ.2 12 (by omega), b1 95 (by decide)]; exact e12, hmm, fun r' F' e _ hc => by cases e; rw [hbad] at hc; cases hc⟩
      have key : sZ T r ≤ most → ∀ n i (K : Nat → Nat → Int32), i + n = sZ T r → (∀ c, c ≠ 95 → c ≠ 99 → K c = I0 c) → (∀ k, k ≠ 12 → K 95 k = I0 95 k) → K 95 12 = nI i → (∀ j, j < i → T.2 (sS T r + j) < 103 ∧ K 99 j = nI (lts T r j)) → ∃ mm J, Zt none mX12_rowTold 0 0 49 [(0, .ref 95), (2, .int 1), (3, .int (nI (sS T r + i)))] [] (g, K, P) none (g, J, P) ∧ KL I J ∧ PSt T J (.inl (sE T r, fRow T most r F)) ∧ J 95 12 = nI mm ∧ mm ≤ most ∧ ∀ r' F', (Sum.inl (r, F) : Md) = .inl (r', F') → sK T r' = 1 → rowOk T r' most = true → mm = sZ T r' ∧ ∀ i, i < sZ T r' → J 99 i = nI (lts T r' i) := by
        intro hmost n
        induction n with
        | zero =>
          intro i K hi a1 a2 e12 hA
          have hi : i = sZ T r := hi
          obtain ⟨kl, k3, k8, x5, x6, x4, CK⟩ := fine K a1 a2
          have ok : rowOk T r most = true := by
            unfold rowOk
            rw [decide_eq_true hmost, anyB_f (fun j hj => decide_eq_false (by have := (hA j (by omega)).1; omega))]; rfl
          have eF : fRow T most r F = F := by unfold fRow; rw [ok, nt_t]
          obtain ⟨J, zJ, kJ, L⟩ := r_adv (F' := F) S Q hI (by omega) kl k3 k8 x5 x6 hFE
          refine ⟨i, J, wX12_rowTold_49 ⟨S.k 95 12 (by decide), fun _ => ⟨fun _ => ⟨S.k 95 12 (by decide), _, zJ, rfl, rfl⟩, fun e => absurd e (by decide)⟩, fun e => ?_⟩, kl.tr kJ.l, by rw [eF]; exact L, by rw [kJ.2 12 (by omega)]; exact e12, by omega, fun r' F' e _ _ => ?_⟩
          · rw [k3, D.1] at e
            exact absurd (nI_le (by omega) (by omega)) e
          · cases e
            exact ⟨hi, fun j hj => by rw [kJ.1 99 (by decide)]; exact (hA j (by omega)).2⟩
        | succ n ih =>
          intro i K hi a1 a2 e12 hA
          obtain ⟨kl, k3, k8, x5, x6, x4, CK⟩ := fine K a1 a2
          have hlt : sS T r + i < T.1 := by omega
          have hb := (C.2.2 (sS T r + i) hlt).2
          have hl := (hLt i (by omega)).1
          have by1 := r_byteAt (g := g) (P := P) S Q CK hlt
          have no : ¬ K 95 3 ≤ nI (sS T r + i) := by rw [k3, D.1]; exact nI_ge (by omega) (by omega)
          have es : nI (T.2 (sS T r + i)) - 97 = nI (T.2 (sS T r + i) - 97) := by rw [show (97 : Int32) = nI 97 from rfl, pk_sub hl]
          by_cases hc : 103 ≤ T.2 (sS T r + i)
          · have ok : rowOk T r most = false := by
              unfold rowOk
              rw [anyB_t (p := fun i => decide (103 ≤ T.2 (sS T r + i))) _ i (by omega) (decide_eq_true hc)]; simp
            obtain ⟨mm, J, zJ, q⟩ := bad K (nI (sS T r + i) + 1) i ok a1 a2 e12 (by omega)
            refine ⟨mm, J, wX12_rowTold_49 ⟨S.k 95 12 (by decide), fun e => absurd e no, fun _ => ⟨fun e => absurd e (by decide), fun _ => ⟨S.k 95 12 (by decide), _, by1, fun _ => wX12_rowTold_83 ⟨fun e => absurd rfl e, fun _ => zJ⟩, fun e => ?_⟩⟩⟩, q⟩
            rw [es, n6, nI_leI (by decide) (by omega)] at e
            omega
          · have i99 : vp_in (K 95 12) (g.2.2 99) := by rw [e12, S.l 99 12 (by decide)]; exact vp_in_nI (by omega) (by decide)
            obtain ⟨K', hK'⟩ : ∃ K', K' = zU (zU K 99 i (nI (T.2 (sS T r + i) - 97))) 95 12 (nI (i + 1)) := ⟨_, rfl⟩
            obtain ⟨mm, J, zJ, q⟩ := ih (i + 1) K' (by omega) (fun c c1 c2 => by rw [hK']; funext j; rw [zU_a _ _ c1, zU_a _ _ c2, a1 c c1 c2]) (fun k hk => by rw [hK', zU_k _ _ hk, zU_a _ _ (by decide), a2 k hk]) (by rw [hK', zU_s]) (fun j hj => by
              by_cases e : j = i
              · subst e
                exact ⟨by omega, by rw [hK', zU_a _ _ (by decide), zU_s]; rfl⟩
              · exact ⟨(hA j (by omega)).1, by rw [hK', zU_a _ _ (by decide), zU_k _ _ e]; exact (hA j (by omega)).2⟩)
            refine ⟨mm, J, wX12_rowTold_49 ⟨S.k 95 12 (by decide), fun e => absurd e no, fun _ => ⟨fun e => absurd e (by decide), fun _ => ⟨S.k 95 12 (by decide), _, by1, fun e => ?_, fun _ => wX12_rowTold_83 ⟨fun _ => ⟨S.k 95 12 (by decide), 99, Q.p 95 11 99 (by decide), S.k 95 12 (by decide), S.k 99 13 (by decide), i99, S.k 95 12 (by decide), S.k 95 12 (by decide), ?_⟩, fun e => absurd e (by decide)⟩⟩⟩⟩, q⟩
            · rw [es, n6, nI_leI (by decide) (by omega)] at e
              omega
            · rw [e12, nI_clamp (by omega), es, zU_a (f := K) (a := 99) (k := i) (b := 95) (j := 12) _ (by decide), e12, nI_1, nI_1, ← hK', show sS T r + i + 1 = sS T r + (i + 1) by omega]
              exact zJ
      have e34 : I0 95 3 - I0 95 4 = nI (sZ T r) := by rw [D0.1, D0.2.1, pk_sub bE.1]; rfl
      have g8 : ¬ ¬ I0 95 8 = 0 := fun e => e h0.2.2.1
      by_cases hmost : sZ T r ≤ most
      · obtain ⟨mm, J, zJ, q⟩ := key hmost (sZ T r) 0 I0 (by omega) (fun _ _ _ => rfl) (fun _ _ => rfl) (by rw [hI0, zU_s]; rfl) (fun j hj => by omega)
        refine ⟨mm, J, eX12_rowTold (wX12_rowTold_0 ?_), q⟩
        rw [← hI0]
        refine ⟨S.k 95 12 (by decide), S.k 95 12 (by decide), fun e => absurd e g8, fun _ => ⟨S.k 95 12 (by decide), fun _ => ⟨S.k 95 12 (by decide), S.k 95 12 (by decide), fun e => ?_, fun _ => ⟨S.k 95 12 (by decide), by rw [D0.2.1]; exact zJ⟩⟩, fun e => absurd (tk.mpr h1) e⟩⟩
        rw [e34] at e
        exact absurd e (nI_nlt hmost (by omega))
      · have ok : rowOk T r most = false := by unfold rowOk; rw [decide_eq_false hmost]; rfl
        obtain ⟨mm, J, zJ, q⟩ := bad I0 (I0 95 4) 0 ok (fun _ _ _ => rfl) (fun _ _ => rfl) (by rw [hI0, zU_s]; rfl) (Nat.zero_le _)
        refine ⟨mm, J, eX12_rowTold (wX12_rowTold_0 ?_), q⟩
        rw [← hI0]
        refine ⟨S.k 95 12 (by decide), S.k 95 12 (by decide), fun e => absurd e g8, fun _ => ⟨S.k 95 12 (by decide), fun _ => ⟨S.k 95 12 (by decide), S.k 95 12 (by decide), fun _ => ⟨S.k 95 12 (by decide), zJ⟩, fun e => ?_⟩, fun e => absurd (tk.mpr h1) e⟩⟩
        rw [e34] at e
        exact absurd (nI_lt (by omega) (by omega)) e
    · have em : mTok T 1 (fRow T most) (.inl (r, F)) = .inr (sS T r) := mTok_f h1
      rw [em]
      obtain ⟨J, z, k, f, L⟩ := r_ends S Q h0
      refine ⟨0, J, eX12_rowTold (wX12_rowTold_0 ?_), k0.tr k, L, by rw [f.2 12 (by decide), hI0, zU_s]; rfl, Nat.zero_le _, fun r' F' e c => by cases e; exact absurd c h1⟩
      rw [← hI0]
      exact ⟨S.k 95 12 (by decide), S.k 95 12 (by decide), fun e => absurd h0.2.2.1 e, fun _ => ⟨S.k 95 12 (by decide), fun e => absurd (tk.mp e) h1, fun _ => ⟨S.k 95 12 (by decide), _, z, rfl, rfl⟩⟩⟩
end ROPS
