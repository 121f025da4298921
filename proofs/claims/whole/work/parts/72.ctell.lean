/-! ===== the class's Reader: what a line tells ===== -/
def FtC (I : Nat → Nat → Int32) (F : FS) : Prop := I 41 4 = F.1 ∧ I 41 5 = F.2
def DatC (I : Nat → Nat → Int32) (y : PS) : Prop := HlD I 42 (yH y) ∧ (∀ w, w < 10 → I 45 w = hB (yH y) w) ∧ I 42 3 = nI (yF y) ∧ CnD I 48 (yC y) ∧ LnD I 52 (yL y) ∧ LgD I 55 (yG y)
def RdC (I : Nat → Nat → Int32) (y : PS) (F : FS) : Prop := FtC I F ∧ (F.1 = 0 → DatC I y ∧ PW y)
def Kn (I J : Nat → Nat → Int32) : Prop := (∀ c, c ≠ 41 → J c = I c) ∧ ∀ k, k ≠ 4 → k ≠ 5 → J 41 k = I 41 k
theorem Kn.rf (I : Nat → Nat → Int32) : Kn I I := ⟨fun _ _ => rfl, fun _ _ _ => rfl⟩
theorem Kn.tr {I J K : Nat → Nat → Int32} (h : Kn I J) (h2 : Kn J K) : Kn I K := ⟨fun c a1 => (h2.1 c a1).trans (h.1 c a1), fun k k1 k2 => (h2.2 k k1 k2).trans (h.2 k k1 k2)⟩
def KD (I J : Nat → Nat → Int32) : Prop := (∀ c, (c < 41 ∨ 57 < c) → J c = I c) ∧ ∀ k, k ≠ 4 → k ≠ 5 → J 41 k = I 41 k
theorem Kn.d {I J : Nat → Nat → Int32} (h : Kn I J) : KD I J := ⟨fun c hc => h.1 c (by omega), h.2⟩
theorem KD.tr {I J K : Nat → Nat → Int32} (h : KD I J) (h2 : KD J K) : KD I K := ⟨fun c a1 => (h2.1 c a1).trans (h.1 c a1), fun k k1 k2 => (h2.2 k k1 k2).trans (h.2 k k1 k2)⟩
/-- only cells of what is told have changed -/
theorem KD.of {I J : Nat → Nat → Int32} (h : ∀ c, (c ≤ 41 ∨ 57 < c) → J c = I c) : KD I J := ⟨fun c hc => h c (by omega), fun k _ _ => by rw [h 41 (by omega)]⟩
theorem TpC.n {I J : Nat → Nat → Int32} {P : Nat → Nat → Option Nat} {T : Tp} (h : TpC I P T) (h2 : J 2 = I 2) (h58 : J 58 = I 58) : TpC J P T := ⟨h.1, h.2.1, h.2.2.1, by rw [h58]; exact h.2.2.2.1, fun q hq => by rw [h2]; exact h.2.2.2.2 q hq⟩
theorem TpC.kn {I J : Nat → Nat → Int32} {P : Nat → Nat → Option Nat} {T : Tp} (h : TpC I P T) (k : Kn I J) : TpC J P T := h.n (k.1 2 (by decide)) (k.1 58 (by decide))
theorem TpC.kd {I J : Nat → Nat → Int32} {P : Nat → Nat → Option Nat} {T : Tp} (h : TpC I P T) (k : KD I J) : TpC J P T := h.n (k.1 2 (by omega)) (k.1 58 (by omega))
/-- what the Reader has kept of a line's tokens -/
def FsD (T : Tp) (I : Nat → Nat → Int32) (k p : Nat) : Prop := I 41 8 = nI (sS T p) ∧ I 41 10 = nI (sS T (q1 T p)) ∧ I 41 11 = nI (sZ T (q1 T p)) ∧ (sK T (q1 T p) = 2 → I 41 12 = nI (sN T (q1 T p))) ∧ (ktw k = true → I 41 13 = nI (sS T (q2 T p)) ∧ I 41 14 = nI (sZ T (q2 T p)) ∧ (sK T (q2 T p) = 2 → I 41 15 = nI (sN T (q2 T p)))) ∧ (5 ≤ k → k ≤ 9 → I 41 9 = nI (k - 5))
theorem DatC.kn {I J : Nat → Nat → Int32} {y : PS} (h : DatC I y) (k : Kn I J) : DatC J y := by
  obtain ⟨h1, h2, h3, h4, h5, h6⟩ := h
  exact ⟨h1.keep (fun j hj => k.1 _ (by omega)), fun w hw => by rw [k.1 45 (by decide)]; exact h2 w hw, by rw [k.1 42 (by decide)]; exact h3, h4.keep (fun j hj => k.1 _ (by omega)), h5.keep (fun j hj => k.1 _ (by omega)), h6.keep (fun j hj => k.1 _ (by omega))⟩
section CTELL
variable {g : zG} {I : Nat → Nat → Int32} {P : Nat → Nat → Option Nat} {T : Tp} {F : FS} {y : PS} {p : Nat}
theorem c_putT {a n : Nat} {x v : Int32} (hk : zk g a 13) (hl : g.2.2 a = n) (hn : n < 2 ^ 31) : ∃ J, Cl mX11_put [.ref a, .int x, .int v] (g, I, P) none (g, J, P) ∧ (∀ c, c ≠ a → J c = I c) ∧ ∀ w, x = nI w → w < n → ∀ j, J a j = if j = w then v else I a j := by
  by_cases h : x < 0 ∨ Int32.ofNat (g.2.2 a) ≤ x
  · refine ⟨I, c_put0 hk h, fun _ _ => rfl, fun w hw hwn => ?_⟩
    exfalso
    rw [hl, hw] at h
    rcases h with h | h
    · exact nI_pos (by omega) h
    · exact nI_ge hwn hn h
  · obtain ⟨k, hk1, hk2⟩ := nI_of (x := x) (fun e => h (Or.inl e))
    have hkn : k < n := by
      by_cases e : k < n
      · exact e
      · exact absurd (Or.inr (by rw [hl, hk2]; exact nI_le (by omega) hk1)) h
    rw [hk2]
    refine ⟨zU I a k v, c_put hk hl hn hkn, fun c hc => by funext j; rw [zU_a _ _ hc], fun w hw hwn j => ?_⟩
    have e := (nI_eq hk1 (by omega)).mp hw
    subst e
    by_cases e : j = k
    · subst e; rw [zU_s, if_pos rfl]
    · rw [zU_k _ _ e, if_neg e]
theorem c_gotT {a n : Nat} {x : Int32} (hk : zk g a 13) (hl : g.2.2 a = n) (hn : n < 2 ^ 31) : ∃ v, Cl mX11_got [.ref a, .int x] (g, I, P) (some (.int v)) (g, I, P) ∧ ∀ w, x = nI w → w < n → v = I a w := by
  by_cases h : x < 0 ∨ Int32.ofNat (g.2.2 a) ≤ x
  · refine ⟨0, c_got0 hk h, fun w hw hwn => ?_⟩
    exfalso
    rw [hl, hw] at h
    rcases h with h | h
    · exact nI_pos (by omega) h
    · exact nI_ge hwn hn h
  · obtain ⟨k, hk1, hk2⟩ := nI_of (x := x) (fun e => h (Or.inl e))
    have hkn : k < n := by
      by_cases e : k < n
      · exact e
      · exact absurd (Or.inr (by rw [hl, hk2]; exact nI_le (by omega) hk1)) h
    rw [hk2]
    exact ⟨I a k, c_got hk hl hn hkn, fun w hw hwn => by rw [(nI_eq hk1 (by omega)).mp hw]⟩
theorem c_bitT {k : Nat} (hk : k < 2 ^ 31) : ∃ v, Cl mX11_bit [.int (nI k)] (g, I, P) (some (.int v)) (g, I, P) ∧ (k < 31 → v = bitI k) := by
  by_cases h : k < 31
  · exact ⟨_, c_bit h, fun _ => rfl⟩
  · exact ⟨0, eX11_bit (wX11_bit_0 ⟨fun q => absurd q (nI_pos hk), fun _ => ⟨fun _ => ⟨rfl, rfl⟩, fun q => absurd (nI_le (a := 31) (by omega) hk) q⟩⟩), fun e => absurd e h⟩
theorem c_note {k q : Nat} (S : Sg g) (Ft : FtC I F) : ∃ J, Cl mX6_note [.ref 41, .int (nI k), .int (nI q)] (g, I, P) none (g, J, P) ∧ Kn I J ∧ FtC J (nt F false k q) := by
  by_cases h : F.1 = 0
  · refine ⟨zU (zU I 41 4 (nI k)) 41 5 (nI q), eX6_note (wX6_note_0 ⟨S.k 41 6 (by decide), fun e => absurd (by rw [Ft.1]; exact h) e, fun _ => ⟨S.k 41 6 (by decide), S.k 41 6 (by decide), rfl, rfl⟩⟩), ⟨fun c hc => by funext j; rw [zU_a _ _ hc, zU_a _ _ hc], fun j j1 j2 => by rw [zU_k _ _ j2, zU_k _ _ j1]⟩, ?_⟩
    rw [nt_f h]
    exact ⟨by rw [zU_k _ _ (by decide), zU_s], zU_s _ _ _ _⟩
  · exact ⟨I, eX6_note (wX6_note_0 ⟨S.k 41 6 (by decide), fun _ => ⟨rfl, rfl⟩, fun e => absurd (by rw [← Ft.1]; exact e) h⟩), Kn.rf I, by rw [nt_n h]; exact Ft⟩
theorem c_needRoom {x z : Int32} {q : Nat} (S : Sg g) (Ft : FtC I F) (h8 : I 41 8 = nI q) : ∃ J, Cl mX6_needRoom [.ref 41, .int x, .int z] (g, I, P) (some (.int (zb (decide (x < z))))) (g, J, P) ∧ Kn I J ∧ FtC J (nt F (decide (x < z)) 3 q) := by
  by_cases h : x < z
  · rw [decide_eq_true h, nt_t]
    exact ⟨I, eX6_needRoom (wX6_needRoom_0 ⟨fun _ => ⟨fun e => absurd h (Int32.not_lt.mpr e), fun _ => ⟨rfl, rfl⟩⟩, fun e => absurd h e⟩), Kn.rf I, Ft⟩
  · rw [decide_eq_false h]
    obtain ⟨J, z1, k1, f1⟩ := c_note (g := g) (P := P) (k := 3) (q := q) S Ft
    exact ⟨J, eX6_needRoom (wX6_needRoom_0 ⟨fun e => absurd e h, fun _ => ⟨S.k 41 6 (by decide), S.k 41 6 (by decide), _, by rw [h8]; exact z1, fun _ => ⟨rfl, rfl⟩, fun e => absurd (Int32.not_lt.mp h) e⟩⟩), k1, f1⟩
theorem c_needNumber {q n lo hi : Nat} (S : Sg g) (Ft : FtC I F) (hn : n < 2 ^ 31) (hlo : lo < 2 ^ 31) (hhi : hi < 2 ^ 31) : ∃ J, Cl mX6_needNumber [.ref 41, .int (nI q), .int (nI n), .int (nI lo), .int (nI hi)] (g, I, P) none (g, J, P) ∧ Kn I J ∧ FtC J (nt F (decide (lo ≤ n ∧ n ≤ hi)) 2 q) := by
  obtain ⟨J, z1, k1, f1⟩ := c_note (g := g) (P := P) (k := 2) (q := q) S Ft
  by_cases h : lo ≤ n ∧ n ≤ hi
  · rw [decide_eq_true h, nt_t]
    exact ⟨I, eX6_needNumber (wX6_needNumber_0 ⟨fun e => absurd e (nI_nlt h.1 hn), fun _ => ⟨fun _ => ⟨rfl, rfl⟩, fun e => absurd (nI_le h.2 hhi) e⟩⟩), Kn.rf I, Ft⟩
  · rw [decide_eq_false h]
    refine ⟨J, eX6_needNumber (wX6_needNumber_0 ⟨fun _ => ⟨S.k 41 6 (by decide), _, z1, rfl, rfl⟩, fun e => ⟨fun e2 => ?_, fun _ => ⟨S.k 41 6 (by decide), _, z1, rfl, rfl⟩⟩⟩), k1, f1⟩
    rw [nI_ltI hn hlo] at e
    rw [nI_leI hn hhi] at e2
    exact absurd ⟨by omega, e2⟩ h
theorem c_needRow {r most : Nat} (S : Sg g) (C : TpC I P T) (Ft : FtC I F) (hr : r ≤ T.1) (hm : most < 2 ^ 31) : ∃ J, Cl mX6_needRow [.ref 41, .int (nI (sS T r)), .int (nI (sZ T r)), .int (nI most)] (g, I, P) none (g, J, P) ∧ Kn I J ∧ FtC J (nt F (rowOk T r most) 2 (sS T r)) := by
  have h6 := C.2.2.1
  have b1 := sS_b hr
  have b2 := sE_b hr
  have hz : sS T r + sZ T r ≤ T.1 := by unfold sZ; omega
  obtain ⟨Jn, zn, kn, fn⟩ := c_note (g := g) (P := P) (k := 2) (q := sS T r) S Ft
  have bad : ∀ i, rowOk T r most = false → Zt none mX6_needRow 0 0 15 [(0, .ref 41), (1, .int (nI (sS T r))), (2, .int (nI (sZ T r))), (4, .int 0), (5, .int (nI i))] [] (g, I, P) none (g, Jn, P) := by
    intro i _
    exact wX6_needRow_15 ⟨fun _ => ⟨fun e => absurd rfl e, fun _ => ⟨S.k 41 6 (by decide), _, zn, rfl, rfl⟩⟩, fun _ => ⟨fun _ => ⟨fun e => absurd rfl e, fun _ => ⟨S.k 41 6 (by decide), _, zn, rfl, rfl⟩⟩, fun e => absurd rfl e⟩⟩
  by_cases hs : sZ T r ≤ most
  · have key : ∀ m i, i + m = sZ T r → (∀ j, j < i → T.2 (sS T r + j) < 103) → ∃ J, Zt none mX6_needRow 0 0 15 [(0, .ref 41), (1, .int (nI (sS T r))), (2, .int (nI (sZ T r))), (4, .int 1), (5, .int (nI i))] [] (g, I, P) none (g, J, P) ∧ Kn I J ∧ FtC J (nt F (rowOk T r most) 2 (sS T r)) := by
      intro m
      induction m with
      | zero =>
        intro i hi hA
        have hi : i = sZ T r := hi
        have ok : rowOk T r most = true := by
          unfold rowOk
          rw [decide_eq_true hs, anyB_f (fun j hj => decide_eq_false (by have := hA j (by omega); omega))]; rfl
        rw [ok, nt_t]
        exact ⟨I, wX6_needRow_15 ⟨fun _ => ⟨fun _ => ⟨rfl, rfl⟩, fun e => absurd e (by decide)⟩, fun e => absurd (by rw [hi]; exact Int32.le_refl _) e⟩, Kn.rf I, Ft⟩
      | succ m ih =>
        intro i hi hA
        have hlt : sS T r + i < T.1 := by omega
        have hb := (C.2.2.2.2 (sS T r + i) hlt).2
        by_cases hc : 103 ≤ T.2 (sS T r + i)
        · have ok : rowOk T r most = false := by
            unfold rowOk
            rw [anyB_t (p := fun i => decide (103 ≤ T.2 (sS T r + i))) _ i (by omega) (decide_eq_true hc)]; simp
          rw [ok]
          exact ⟨Jn, wX6_needRow_15 ⟨fun e => absurd e (nI_ge (by omega) (by omega)), fun _ => ⟨fun e => absurd e (by decide), fun _ => ⟨S.k 41 6 (by decide), _, C.2.1, _, by rw [nI_add]; exact c_tape S C hlt, fun _ => by rw [nI_1]; exact bad (i + 1) ok, fun e => absurd (nI_le (a := 103) hc (by omega)) e⟩⟩⟩, kn, fn⟩
        · obtain ⟨J, z, q⟩ := ih (i + 1) (by omega) (fun j hj => by
            by_cases e : j = i
            · subst e; omega
            · exact hA j (by omega))
          exact ⟨J, wX6_needRow_15 ⟨fun e => absurd e (nI_ge (by omega) (by omega)), fun _ => ⟨fun e => absurd e (by decide), fun _ => ⟨S.k 41 6 (by decide), _, C.2.1, _, by rw [nI_add]; exact c_tape S C hlt, fun e => absurd e (nI_ge (b := 103) (by omega) (by decide)), fun _ => by rw [nI_1]; exact z⟩⟩⟩, q⟩
    obtain ⟨J, z, q⟩ := key (sZ T r) 0 (by omega) (fun j hj => by omega)
    exact ⟨J, eX6_needRow (wX6_needRow_0 ⟨fun e => absurd e (nI_nlt hs hm), fun _ => z⟩), q⟩
  · have ok : rowOk T r most = false := by unfold rowOk; rw [decide_eq_false hs]; rfl
    rw [ok]
    exact ⟨Jn, eX6_needRow (wX6_needRow_0 ⟨fun _ => bad 0 ok, fun e => absurd (nI_lt (by omega) (by omega)) e⟩), kn, fn⟩
theorem c_letterAt {k : Nat} (S : Sg g) (C : TpC I P T) (hk : k < T.1) (h : 97 ≤ T.2 k) : Cl mX6_letterAt [.ref 41, .int (nI k)] (g, I, P) (some (.int (nI (T.2 k - 97)))) (g, I, P) := by
  refine eX6_letterAt (wX6_letterAt_0 ⟨S.k 41 6 (by decide), _, C.2.1, _, c_tape S C hk, ?_, rfl⟩)
  rw [show (97 : Int32) = nI 97 from rfl, pk_sub h]
/-- letters of a row, from the i-th on, are put into a word or a line -/
theorem c_wordLoop {s z : Nat} {x : Int32} (S : Sg g) (Q : Sp P) (C : TpC I P T) (hz : s + z ≤ T.1) (hL : ∀ i, i < z → 97 ≤ T.2 (s + i)) : ∀ m i (K : Nat → Nat → Int32), i + m = min z 6 → K 2 = I 2 → K 58 = I 58 → K 41 10 = nI s → K 41 11 = nI z → ∃ J, Zt none mX6_tellWord 0 0 93 [(0, .ref 41), (2, .int x), (3, .int (nI i))] [] (g, K, P) none (g, J, P) ∧ (∀ c, c ≠ 42 → c ≠ 46 → J c = K c) ∧ (∀ k, k ≠ 1 → J 42 k = K 42 k) ∧ J 42 1 = K 42 1 + 1 ∧ ∀ w, x = nI w → w < 10 → ∀ j, J 46 j = if 6 * w + i ≤ j ∧ j < 6 * w + min z 6 then nI (T.2 (s + (j - 6 * w)) - 97) else K 46 j := by
  have h6 := C.2.2.1
  intro m
  induction m with
  | zero =>
    intro i K hi k2 k58 k10 k11
    have hi : i = min z 6 := hi
    refine ⟨zU K 42 1 (K 42 1 + 1), wX6_tellWord_93 ⟨S.k 41 6 (by decide), fun _ => ⟨S.k 41 6 (by decide), 42, Q.p 41 0 42 (by decide), S.k 42 3 (by decide), S.k 42 3 (by decide), rfl, rfl⟩, fun e => ⟨fun _ => ⟨S.k 41 6 (by decide), 42, Q.p 41 0 42 (by decide), S.k 42 3 (by decide), S.k 42 3 (by decide), rfl, rfl⟩, fun e2 => ?_⟩⟩, fun c c1 c2 => by funext j; rw [zU_a _ _ c1], fun k hk => by rw [zU_k _ _ hk], zU_s _ _ _ _, fun w hw hw10 j => ?_⟩
    · rw [k11, nI_leI (by omega) (by omega)] at e
      rw [n6, nI_leI (by decide) (by omega)] at e2
      omega
    · rw [zU_a _ _ (by decide), if_neg (by omega)]
  | succ m ih =>
    intro i K hi k2 k58 k10 k11
    have CK : TpC K P T := C.n k2 k58
    obtain ⟨K1, z1, a1, a2⟩ := c_putT (g := g) (I := K) (P := P) (a := 46) (n := 60) (x := x * 6 + nI i) (v := nI (T.2 (s + i) - 97)) (S.k 46 13 (by decide)) (S.l 46 60 (by decide)) (by decide)
    obtain ⟨J, z2, b1, b2, b3, b4⟩ := ih (i + 1) K1 (by omega) (by rw [a1 2 (by decide), k2]) (by rw [a1 58 (by decide), k58]) (by rw [a1 41 (by decide)]; exact k10) (by rw [a1 41 (by decide)]; exact k11)
    refine ⟨J, wX6_tellWord_93 ⟨S.k 41 6 (by decide), fun e => ?_, fun _ => ⟨fun e => absurd e (nI_ge (b := 6) (by omega) (by decide)), fun _ => ⟨S.k 41 6 (by decide), 42, Q.p 41 0 42 (by decide), S.k 42 3 (by decide), 46, Q.p 42 7 46 (by decide), S.k 41 6 (by decide), S.k 41 6 (by decide), _, by rw [k10, nI_add]; exact c_letterAt S CK (by omega) (hL i (by omega)), _, z1, by rw [nI_1]; exact z2⟩⟩⟩, fun c c1 c2 => by rw [b1 c c1 c2, a1 c c2], fun k hk => by rw [b2 k hk, a1 42 (by decide)], by rw [b3, a1 42 (by decide)], fun w hw hw10 j => ?_⟩
    · rw [k11] at e; exact absurd e (nI_ge (by omega) (by omega))
    · rw [b4 w hw hw10 j, a2 (6 * w + i) (by rw [hw, n6, pk_mul, nI_add, Nat.mul_comm]) (by omega) j]
      by_cases e : j = 6 * w + i
      · subst e
        rw [if_neg (by omega), if_pos rfl, if_pos (by omega), show 6 * w + i - 6 * w = i by omega]
      · rw [if_neg e]
        by_cases e2 : 6 * w + (i + 1) ≤ j ∧ j < 6 * w + min z 6
        · rw [if_pos e2, if_pos (by omega)]
        · rw [if_neg e2, if_neg (by omega)]
theorem c_tellWord (S : Sg g) (Q : Sp P) (C : TpC I P T) (hp : p ≤ T.1) (R : RdC I y F) (D : FsD T I 1 p) (h : lF T 1 p = none) : ∃ J, Cl mX6_tellWord [.ref 41] (g, I, P) none (g, J, P) ∧ KD I J ∧ FtC J (tF T 1 p y F) ∧ ((tF T 1 p y F).1 = 0 → DatC J (tY T 1 p y)) := by
  obtain ⟨-, k1, k2, -⟩ := lF_n h
  obtain ⟨k2, k3⟩ := k2 rfl
  have k1 : sK T (q1 T p) = 1 := k1
  have k2 : sK T (q2 T p) = 2 := k2
  have b1 : q1 T p ≤ T.1 := (sE_b hp).2.1
  have b2 : q2 T p ≤ T.1 := (sE_b b1).2.1
  obtain ⟨Ft, Rd⟩ := R
  obtain ⟨D8, D10, D11, -, Dtw, -⟩ := D
  obtain ⟨D13, D14, D15⟩ := Dtw rfl
  have D15 := D15 k2
  have n99 := sN_le b2 k2
  have s1 := sS_b b1
  have e1 := sE_b b1
  have h6 := C.2.2.1
  have hz : sS T (q1 T p) + sZ T (q1 T p) ≤ T.1 := by unfold sZ; omega
  have hLt := sK_1 b1 k1
  obtain ⟨I5, z5, n5, f5⟩ := c_needRoom (g := g) (P := P) (x := I 42 1) (z := 10) S Ft D8
  obtain ⟨I8, z8, n8', f8⟩ := c_needRow (g := g) (r := q1 T p) (most := 6) S (C.kn n5) f5 b1 (by decide)
  obtain ⟨I11, z11, n11, f11⟩ := c_needNumber (g := g) (P := P) (q := sS T (q2 T p)) (n := sN T (q2 T p)) (lo := 0) (hi := 99) S f8 (by omega) (by decide) (by decide)
  rw [show decide (0 ≤ sN T (q2 T p) ∧ sN T (q2 T p) ≤ 99) = true from decide_eq_true ⟨Nat.zero_le _, n99⟩, nt_t] at f11
  have n := (n5.tr n8').tr n11
  have eF : nt (nt F (decide (I 42 1 < 10)) 3 (sS T p)) (rowOk T (q1 T p) 6) 2 (sS T (q1 T p)) = tF T 1 p y F := by
    show _ = nt (nt F (decide (hN (yH y) < 10)) 3 (sS T p)) (rowOk T (q1 T p) 6) 2 (sS T (q1 T p))
    by_cases h0 : F.1 = 0
    · rw [(Rd h0).1.1.2.1, show decide (nI (hN (yH y)) < 10) = decide (hN (yH y) < 10) from decide_eq_decide.mpr (nI_ltI (b := 10) (by have := (Rd h0).2.1.2.1; omega) (by decide))]
    · simp only [nt_n h0]
  rw [eF] at f11
  have v10 : ∀ k, k ≠ 4 → k ≠ 5 → I11 41 k = I 41 k := n.2
  have head : ∀ J, ((¬ zb (decide (I 42 1 < 10)) = 0) → ∃ (I24 : Nat → Nat → Int32), Cl mX11_put [.ref 43, .int (I11 42 1), .int (zmmin (I11 41 11) 6)] (g, I11, P) none (g, I24, P) ∧ ∃ (I33 : Nat → Nat → Int32), Cl mX11_put [.ref 44, .int (I11 42 1), .int (I24 41 15)] (g, I24, P) none (g, I33, P) ∧ Zt none mX6_tellWord 0 0 93 [(0, .ref 41), (2, .int (I11 42 1)), (3, .int 0)] [] (g, I33, P) none (g, J, P)) → ((zb (decide (I 42 1 < 10)) = 0) → ((g, J, P) : zH) = (g, I11, P)) → Cl mX6_tellWord [.ref 41] (g, I, P) none (g, J, P) := by
    intro J H1 H2
    refine eX6_tellWord (wX6_tellWord_0 ⟨S.k 41 6 (by decide), 42, Q.p 41 0 42 (by decide), S.k 42 3 (by decide), S.k 41 6 (by decide), _, _, z5, S.k 41 6 (by decide), S.k 41 6 (by decide), S.k 41 6 (by decide), _, by rw [n5.2 10 (by decide) (by decide), n5.2 11 (by decide) (by decide), D10, D11]; exact z8, S.k 41 6 (by decide), S.k 41 6 (by decide), S.k 41 6 (by decide), _, by rw [(n5.tr n8').2 13 (by decide) (by decide), (n5.tr n8').2 15 (by decide) (by decide), D13, D15]; exact z11, fun e => ?_, fun e => ⟨rfl, H2 e⟩⟩)
    obtain ⟨I24, y1, I33, y2, y3⟩ := H1 e
    exact ⟨S.k 41 6 (by decide), 42, Q.p 41 0 42 (by decide), S.k 42 3 (by decide), S.k 41 6 (by decide), 42, Q.p 41 0 42 (by decide), S.k 42 3 (by decide), 43, Q.p 42 4 43 (by decide), S.k 41 6 (by decide), I24, y1, S.k 41 6 (by decide), 42, Q.p 41 0 42 (by decide), S.k 42 3 (by decide), 44, Q.p 42 5 44 (by decide), S.k 41 6 (by decide), I33, y2, y3⟩
  by_cases hr : I 42 1 < 10
  · obtain ⟨I24, z24, a1, a2⟩ := c_putT (g := g) (I := I11) (P := P) (a := 43) (n := 10) (x := I11 42 1) (v := zmmin (I11 41 11) 6) (S.k 43 13 (by decide)) (S.l 43 10 (by decide)) (by decide)
    obtain ⟨I33, z33, c1, c2⟩ := c_putT (g := g) (I := I24) (P := P) (a := 44) (n := 10) (x := I11 42 1) (v := I24 41 15) (S.k 44 13 (by decide)) (S.l 44 10 (by decide)) (by decide)
    have m : ∀ c, c ≠ 43 → c ≠ 44 → I33 c = I11 c := fun c x1 x2 => by rw [c1 c x2, a1 c x1]
    obtain ⟨J, zJ, d1, d2, d3, d4⟩ := c_wordLoop (g := g) (x := I11 42 1) S Q C hz (fun i hi => (hLt i hi).1) (min (sZ T (q1 T p)) 6) 0 I33 (by omega) (by rw [m 2 (by decide) (by decide), n.1 2 (by decide)]) (by rw [m 58 (by decide) (by decide), n.1 58 (by decide)]) (by rw [m 41 (by decide) (by decide), v10 10 (by decide) (by decide)]; exact D10) (by rw [m 41 (by decide) (by decide), v10 11 (by decide) (by decide)]; exact D11)
    have far : ∀ c, c ≠ 42 → c ≠ 43 → c ≠ 44 → c ≠ 46 → J c = I11 c := fun c x1 x2 x3 x4 => by rw [d1 c x1 x4, m c x2 x3]
    refine ⟨J, head J (fun _ => ⟨I24, z24, I33, z33, zJ⟩) (fun e => by rw [decide_eq_true hr] at e; cases e), n.d.tr (KD.of (fun c hc => far c (by omega) (by omega) (by omega) (by omega))), ⟨by rw [far 41 (by decide) (by decide) (by decide) (by decide)]; exact f11.1, by rw [far 41 (by decide) (by decide) (by decide) (by decide)]; exact f11.2⟩, fun hF => ?_⟩
    obtain ⟨t1, t2, -⟩ := nt_0 (by decide) hF
    obtain ⟨t3, t4, -⟩ := nt_0 (by decide) t1
    rw [decide_eq_true_eq] at t4
    obtain ⟨r1, r2⟩ := rowOk_1 t2
    obtain ⟨⟨H, HB, HF, HC, HL, HG⟩, Y⟩ := Rd t3
    have x42 : ∀ k, I11 42 k = I 42 k := fun k => by rw [n.1 42 (by decide)]
    have e42 : I11 42 1 = nI (hN (yH y)) := by rw [x42]; exact H.2.1
    have a2 := a2 _ e42 t4
    have c2 := c2 _ e42 t4
    have d4 := d4 _ e42 t4
    have old : ∀ k, k ≠ 1 → J 42 k = I 42 k := fun k hk => by rw [d2 k hk, m 42 (by decide) (by decide), x42]
    refine ⟨⟨by rw [old 0 (by decide)]; exact H.1, ?_, by rw [old 2 (by decide)]; exact H.2.2.1, fun w hw => ?_, fun w hw => ?_, fun w hw => ?_, fun w i hw hi => ?_, fun q hq => ?_⟩, fun w hw => ?_, by rw [old 3 (by decide)]; exact HF, HC.keep (fun j hj => ?_), HL.keep (fun j hj => ?_), HG.keep (fun j hj => ?_)⟩
    · rw [d3, m 42 (by decide) (by decide), e42, nI_1]; rfl
    · have hw : w < hN (yH y) + 1 := hw
      show J 43 w = nI (upf (hZ (yH y)) (hN (yH y)) (sZ T (q1 T p)) w)
      rw [d1 43 (by decide) (by decide), c1 43 (by decide), a2 w]
      by_cases e : w = hN (yH y)
      · rw [if_pos e, e, upf_s, v10 11 (by decide) (by decide), D11, n6, zmmin_n (by omega) (by decide), Nat.min_eq_left r1]
      · rw [if_neg e, upf_n _ _ e, n.1 43 (by decide)]; exact H.2.2.2.1 w (by omega)
    · have hw : w < hN (yH y) + 1 := hw
      show J 44 w = nI (upf (hO (yH y)) (hN (yH y)) (sN T (q2 T p)) w)
      rw [d1 44 (by decide) (by decide), c2 w]
      by_cases e : w = hN (yH y)
      · rw [if_pos e, e, upf_s, a1 41 (by decide), v10 15 (by decide) (by decide), D15]
      · rw [if_neg e, upf_n _ _ e, a1 44 (by decide), n.1 44 (by decide)]; exact H.2.2.2.2.1 w (by omega)
    · show J 45 w = hB (yH y) w
      have hw : w < hN (yH y) + 1 := hw
      rw [far 45 (by decide) (by decide) (by decide) (by decide), n.1 45 (by decide)]
      exact HB w (by omega)
    · have hw : w < hN (yH y) + 1 := hw
      have hi : i < upf (hZ (yH y)) (hN (yH y)) (sZ T (q1 T p)) w := hi
      show J 46 (6 * w + i) = nI (upf (hL (yH y)) (hN (yH y)) (lts T (q1 T p)) w i)
      rw [d4]
      by_cases e : w = hN (yH y)
      · rw [e, upf_s] at hi
        rw [e, upf_s, if_pos (by omega), show 6 * hN (yH y) + i - 6 * hN (yH y) = i by omega]; rfl
      · rw [upf_n _ _ e] at hi
        have := (Y.1.2.2.1 w (by omega)).2
        rw [if_neg (by omega), upf_n _ _ e, m 46 (by decide) (by decide), n.1 46 (by decide)]
        exact H.2.2.2.2.2.2.1 w i (by omega) hi
    · show J 47 q = hA (yH y) q
      rw [far 47 (by decide) (by decide) (by decide) (by decide), n.1 47 (by decide)]
      exact H.2.2.2.2.2.2.2 q hq
    · show J 45 w = hB (yH y) w
      rw [far 45 (by decide) (by decide) (by decide) (by decide), n.1 45 (by decide)]
      exact HB w hw
    · rw [far _ (by omega) (by omega) (by omega) (by omega), n.1 _ (by omega)]
    · rw [far _ (by omega) (by omega) (by omega) (by omega), n.1 _ (by omega)]
    · rw [far _ (by omega) (by omega) (by omega) (by omega), n.1 _ (by omega)]
  · refine ⟨I11, head I11 (fun e => by rw [decide_eq_false hr] at e; exact absurd rfl e) (fun _ => rfl), n.d, f11, fun hF => ?_⟩
    exfalso
    obtain ⟨t1, t2, -⟩ := nt_0 (by decide) hF
    obtain ⟨t3, t4, -⟩ := nt_0 (by decide) t1
    rw [decide_eq_true_eq] at t4
    rw [(Rd t3).1.1.2.1] at hr
    exact hr (nI_lt (b := 10) t4 (by decide))
end CTELL
