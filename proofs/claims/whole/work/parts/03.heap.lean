/-! ===== the abstract heap: shape (size, kind by address, length by address), ints by address and place, references by address and place ===== -/
abbrev zG : Type := Nat × (Nat → Nat) × (Nat → Nat)
abbrev zH : Type := zG × (Nat → Nat → Int32) × (Nat → Nat → Option Nat)
def zU {α : Type} (f : Nat → Nat → α) (a k : Nat) (x : α) : Nat → Nat → α := fun b j => if b = a then (if j = k then x else f b j) else f b j
def zRn (c : Nat) : String := match c with
  | 0 => RX0 | 1 => RX1 | 2 => RX2 | 3 => RX3 | 4 => RX4 | 5 => RX5 | 6 => RX6 | 7 => RX7 | 8 => RX8 | 9 => RX9 | 10 => RX10 | 11 => RX11 | _ => RX12
def zTb (c : Nat) : u_T := match c with
  | 0 => TX0 | 1 => TX1 | 2 => TX2 | 3 => TX3 | 4 => TX4 | 5 => TX5 | 6 => TX6 | 7 => TX7 | 8 => TX8 | 9 => TX9 | 10 => TX10 | 11 => TX11 | _ => TX12
def zTyF (c : Nat) : Nat → FieldType := match c with
  | 0 => tyX0 | 1 => tyX1 | 2 => tyX2 | 3 => tyX3 | 4 => tyX4 | 5 => tyX5 | 6 => tyX6 | 7 => tyX7 | 8 => tyX8 | 9 => tyX9 | 10 => tyX10 | 11 => tyX11 | _ => tyX12
def zN (c : Nat) : Nat := match c with
  | 0 => 4 | 1 => 5 | 2 => 11 | 3 => 9 | 4 => 3 | 5 => 3 | 6 => 16 | 7 => 6 | 8 => 7 | 9 => 9 | 10 => 4 | 11 => 7 | _ => 41
def zRef (c k : Nat) : Bool := match zTyF c k with
  | .object _ => true
  | .array _ => true
  | _ => false
def zTy (t : Nat) : FieldType := match t with
  | 13 => .int | 14 => .boolean | 15 => .object RX0 | 16 => .object RX3 | 17 => .object RX4 | 18 => .object RX5 | _ => .object RX9
def zTys (dT : Nat → ClassId) : List (ClassId × FieldType) := [(dT 13, zTy 13), (dT 14, zTy 14), (dT 15, zTy 15), (dT 16, zTy 16), (dT 17, zTy 17), (dT 18, zTy 18), (dT 19, zTy 19)]
theorem zTys_at (dT : Nat → ClassId) {t : Nat} (h1 : 13 ≤ t) (h2 : t < 20) : (zTys dT)[t - 13]? = some (dT t, zTy t) := by
  rcases (show t = 13 ∨ t = 14 ∨ t = 15 ∨ t = 16 ∨ t = 17 ∨ t = 18 ∨ t = 19 by omega) with rfl | rfl | rfl | rfl | rfl | rfl | rfl <;> rfl
theorem z_c13 {P : Nat → Prop} (h : P 0 ∧ P 1 ∧ P 2 ∧ P 3 ∧ P 4 ∧ P 5 ∧ P 6 ∧ P 7 ∧ P 8 ∧ P 9 ∧ P 10 ∧ P 11 ∧ P 12) {c : Nat} (hc : c < 13) : P c := by
  obtain ⟨a0, a1, a2, a3, a4, a5, a6, a7, a8, a9, a10, a11, a12⟩ := h
  rcases (show c = 0 ∨ c = 1 ∨ c = 2 ∨ c = 3 ∨ c = 4 ∨ c = 5 ∨ c = 6 ∨ c = 7 ∨ c = 8 ∨ c = 9 ∨ c = 10 ∨ c = 11 ∨ c = 12 by omega) with rfl | rfl | rfl | rfl | rfl | rfl | rfl | rfl | rfl | rfl | rfl | rfl | rfl <;> assumption
theorem zCl_at {c : Nat} (hc : c < 13) : vwCl[c]? = some (zRn c, zTb c, zN c) := z_c13 (P := fun c => vwCl[c]? = some (zRn c, zTb c, zN c)) ⟨rfl, rfl, rfl, rfl, rfl, rfl, rfl, rfl, rfl, rfl, rfl, rfl, rfl⟩ hc
theorem zTyF_ok {c : Nat} (hc : c < 13) : ∀ k, k < zN c → parseFieldDescriptor (zTb c k).2.2.1 = some (zTyF c k) := z_c13 (P := fun c => ∀ k, k < zN c → parseFieldDescriptor (zTb c k).2.2.1 = some (zTyF c k)) ⟨tyX0_ok, tyX1_ok, tyX2_ok, tyX3_ok, tyX4_ok, tyX5_ok, tyX6_ok, tyX7_ok, tyX8_ok, tyX9_ok, tyX10_ok, tyX11_ok, tyX12_ok⟩ hc
theorem zNm_ok {c : Nat} (hc : c < 13) : ∀ a, a < zN c → ∀ b, b < zN c → a ≠ b → (zTb c a).2.1 ≠ (zTb c b).2.1 := z_c13 (P := fun c => ∀ a, a < zN c → ∀ b, b < zN c → a ≠ b → (zTb c a).2.1 ≠ (zTb c b).2.1) ⟨nmX0, nmX1, nmX2, nmX3, nmX4, nmX5, nmX6, nmX7, nmX8, nmX9, nmX10, nmX11, nmX12⟩ hc
theorem zOwn_ok {c : Nat} (hc : c < 13) : ∀ k, k < zN c → (zTb c k).1 = zRn c := z_c13 (P := fun c => ∀ k, k < zN c → (zTb c k).1 = zRn c) ⟨by decide +kernel, by decide +kernel, by decide +kernel, by decide +kernel, by decide +kernel, by decide +kernel, by decide +kernel, by decide +kernel, by decide +kernel, by decide +kernel, by decide +kernel, by decide +kernel, by decide +kernel⟩ hc
theorem zWs_ok {c : Nat} (hc : c < 13) : ∀ w ∈ u_ws (zRn c) (zTb c) (zN c), w ∈ lw_tbl := z_c13 (P := fun c => ∀ w ∈ u_ws (zRn c) (zTb c) (zN c), w ∈ lw_tbl) ⟨by decide +kernel, by decide +kernel, by decide +kernel, by decide +kernel, by decide +kernel, by decide +kernel, by decide +kernel, by decide +kernel, by decide +kernel, by decide +kernel, by decide +kernel, by decide +kernel, by decide +kernel⟩ hc
theorem zWs_good {c : Nat} (hc : c < 13) : ∀ w ∈ u_ws (zRn c) (zTb c) (zN c), zGood w = true := z_c13 (P := fun c => ∀ w ∈ u_ws (zRn c) (zTb c) (zN c), zGood w = true) ⟨by decide +kernel, by decide +kernel, by decide +kernel, by decide +kernel, by decide +kernel, by decide +kernel, by decide +kernel, by decide +kernel, by decide +kernel, by decide +kernel, by decide +kernel, by decide +kernel, by decide +kernel⟩ hc
theorem zWs_in {c : Nat} (hc : c < 13) : ∀ w ∈ u_ws (zRn c) (zTb c) (zN c), w ∈ zGW := fun w h => z_mem (zWs_ok hc w h) (zWs_good hc w h)
/-- the fields of the object at i -/
def zFs (b : Nat) (h : zH) (i : Nat) : List Value := (List.range (zN (h.1.2.1 i))).map (fun k => if zRef (h.1.2.1 i) k = true then va_rf ((h.2.2 i k).map (fun j => b + j)) else .int (h.2.1 i k))
def zE (dT : Nat → ClassId) (b : Nat) (h : zH) (i : Nat) : va_E :=
  if h.1.2.1 i < 13 then .inr (h.1.2.1 i, zFs b h i)
  else if h.1.2.1 i < 15 then .inl (dT (h.1.2.1 i), h.1.2.2 i, .inl (h.2.1 i))
  else .inl (dT (h.1.2.1 i), h.1.2.2 i, .inr (.inr (.inr (.inr (fun k => (h.2.2 i k).map (fun j => b + j))))))
def zWs (dT : Nat → ClassId) (b : Nat) (h : zH) : va_W := (List.range h.1.1).map (fun i => (b + i, zE dT b h i))
theorem zWs_at {dT : Nat → ClassId} {b : Nat} {h : zH} {i : Nat} (hi : i < h.1.1) : (zWs dT b h)[i]? = some (b + i, zE dT b h i) := by
  simp [zWs, hi]
theorem zWs_D (dT : Nat → ClassId) (b : Nat) (h : zH) : va_D (fun q => b ≤ q) (zWs dT b h) := by
  refine ⟨fun i j p q hp hq e => ?_, fun k q hq => ?_⟩
  · simp only [zWs, List.getElem?_map, Option.map_eq_some_iff] at hp hq
    obtain ⟨x, hx, rfl⟩ := hp
    obtain ⟨y, hy, rfl⟩ := hq
    have h1 := List.getElem?_eq_some_iff.mp hx
    have h2 := List.getElem?_eq_some_iff.mp hy
    obtain ⟨_, h1⟩ := h1
    obtain ⟨_, h2⟩ := h2
    simp at h1 h2 e
    omega
  · simp only [zWs, List.getElem?_map, Option.map_eq_some_iff] at hq
    obtain ⟨x, hx, rfl⟩ := hq
    simp
theorem z_map_set {α : Type} (f g : Nat → α) (n a : Nat) (e : α) (he : g a = e) (hn : ∀ i, i ≠ a → g i = f i) : ((List.range n).map f).set a e = (List.range n).map g := by
  apply List.ext_getElem?
  intro i
  rw [List.getElem?_set]
  by_cases hi : a = i
  · subst hi
    by_cases ha : a < n
    · simp [ha, he]
    · simp [ha]
  · have : i ≠ a := fun q => hi q.symm
    simp only [hi, if_false, List.getElem?_map]
    cases hr : (List.range n)[i]? with
    | none => rfl
    | some x =>
      have h2 := (List.getElem?_eq_some_iff.mp hr)
      obtain ⟨_, h2⟩ := h2
      simp at h2
      subst h2
      simp [hn i this]
theorem zU_s {α : Type} (f : Nat → Nat → α) (a k : Nat) (x : α) : zU f a k x a k = x := by simp [zU]
theorem zU_a {α : Type} (f : Nat → Nat → α) {a k b j : Nat} (x : α) (h : b ≠ a) : zU f a k x b j = f b j := by simp [zU, h]
theorem zU_k {α : Type} (f : Nat → Nat → α) {a k b j : Nat} (x : α) (h : j ≠ k) : zU f a k x b j = f b j := by simp [zU, h]
theorem zE_I_ne {dT : Nat → ClassId} {b : Nat} {g : zG} {I : Nat → Nat → Int32} {P : Nat → Nat → Option Nat} {a k : Nat} {x : Int32} {i : Nat} (h : i ≠ a) : zE dT b (g, zU I a k x, P) i = zE dT b (g, I, P) i := by
  have e : zU I a k x i = I i := by funext j; exact zU_a I x h
  simp only [zE, zFs, e]
theorem zE_P_ne {dT : Nat → ClassId} {b : Nat} {g : zG} {I : Nat → Nat → Int32} {P : Nat → Nat → Option Nat} {a k : Nat} {x : Option Nat} {i : Nat} (h : i ≠ a) : zE dT b (g, I, zU P a k x) i = zE dT b (g, I, P) i := by
  have e : zU P a k x i = P i := by funext j; exact zU_a P x h
  simp only [zE, zFs, e]
theorem zFs_I {b : Nat} {g : zG} {I : Nat → Nat → Int32} {P : Nat → Nat → Option Nat} {a k : Nat} {x : Int32} (hr : zRef (g.2.1 a) k = false) : (zFs b (g, I, P) a).set k (.int x) = zFs b (g, zU I a k x, P) a := by
  refine z_map_set _ _ _ _ _ ?_ ?_
  · simp [hr, zU]
  · intro i hi
    simp [zU, hi]
theorem zFs_P {b : Nat} {g : zG} {I : Nat → Nat → Int32} {P : Nat → Nat → Option Nat} {a k : Nat} {x : Option Nat} (hr : zRef (g.2.1 a) k = true) : (zFs b (g, I, P) a).set k (va_rf (x.map (fun j => b + j))) = zFs b (g, I, zU P a k x) a := by
  refine z_map_set _ _ _ _ _ ?_ ?_
  · simp [hr, zU]
  · intro i hi
    simp [zU, hi]
theorem zWs_setFI {dT : Nat → ClassId} {b : Nat} {g : zG} {I : Nat → Nat → Int32} {P : Nat → Nat → Option Nat} {a c k : Nat} {x : Int32} (hc : g.2.1 a = c) (h13 : c < 13) (hr : zRef c k = false) : (zWs dT b (g, I, P)).set a (b + a, .inr (c, (zFs b (g, I, P) a).set k (.int x))) = zWs dT b (g, zU I a k x, P) := by
  subst hc
  refine z_map_set _ _ _ _ _ ?_ ?_
  · rw [zFs_I hr]
    simp [zE, h13]
  · intro i hi
    rw [zE_I_ne hi]
theorem zWs_setFP {dT : Nat → ClassId} {b : Nat} {g : zG} {I : Nat → Nat → Int32} {P : Nat → Nat → Option Nat} {a c k : Nat} {x : Option Nat} (hc : g.2.1 a = c) (h13 : c < 13) (hr : zRef c k = true) : (zWs dT b (g, I, P)).set a (b + a, .inr (c, (zFs b (g, I, P) a).set k (va_rf (x.map (fun j => b + j))))) = zWs dT b (g, I, zU P a k x) := by
  subst hc
  refine z_map_set _ _ _ _ _ ?_ ?_
  · rw [zFs_P hr]
    simp [zE, h13]
  · intro i hi
    rw [zE_P_ne hi]
theorem zWs_setAI {dT : Nat → ClassId} {b : Nat} {g : zG} {I : Nat → Nat → Int32} {P : Nat → Nat → Option Nat} {a c k : Nat} {x : Int32} (hc : g.2.1 a = c) (h13 : 13 ≤ c) (h15 : c < 15) : (zWs dT b (g, I, P)).set a (b + a, .inl (dT c, g.2.2 a, .inl (upd (I a) k x))) = zWs dT b (g, zU I a k x, P) := by
  subst hc
  refine z_map_set _ _ _ _ _ ?_ ?_
  · have e : zU I a k x a = upd (I a) k x := by funext j; simp [zU, upd]
    simp [zE, Nat.not_lt.mpr h13, h15, e]
  · intro i hi
    rw [zE_I_ne hi]
theorem zWs_setAP {dT : Nat → ClassId} {b : Nat} {g : zG} {I : Nat → Nat → Int32} {P : Nat → Nat → Option Nat} {a c k v : Nat} (hc : g.2.1 a = c) (h15 : 15 ≤ c) : (zWs dT b (g, I, P)).set a (b + a, .inl (dT c, g.2.2 a, .inr (.inr (.inr (.inr (va_up (fun j => (P a j).map (fun j => b + j)) k (some (b + v)))))))) = zWs dT b (g, I, zU P a k (some v)) := by
  subst hc
  refine z_map_set _ _ _ _ _ ?_ ?_
  · have e : (fun j => (zU P a k (some v) a j).map (fun j => b + j)) = va_up (fun j => (P a j).map (fun j => b + j)) k (some (b + v)) := by
      funext j
      by_cases hj : j = k <;> simp [zU, va_up, hj]
    have h1 : ¬ g.2.1 a < 13 := by omega
    have h2 : ¬ g.2.1 a < 15 := by omega
    simp only [zE, h1, h2, if_false, e]
  · intro i hi
    rw [zE_P_ne hi]
/-- a cell more: kind c, length n, zeros and nulls -/
def zNew (h : zH) (c n : Nat) : zH := ((h.1.1 + 1, (fun i => if i = h.1.1 then c else h.1.2.1 i), (fun i => if i = h.1.1 then n else h.1.2.2 i)), (fun i k => if i = h.1.1 then 0 else h.2.1 i k), (fun i k => if i = h.1.1 then none else h.2.2 i k))
theorem zE_new_old {dT : Nat → ClassId} {b : Nat} {h : zH} {c n i : Nat} (hi : i < h.1.1) : zE dT b (zNew h c n) i = zE dT b h i := by
  have : ¬ i = h.1.1 := by omega
  simp only [zE, zFs, zNew, this, if_false]
theorem zWs_new {dT : Nat → ClassId} {b : Nat} {h : zH} {c n : Nat} {e : va_E} (he : e = zE dT b (zNew h c n) h.1.1) : zWs dT b h ++ [(b + h.1.1, e)] = zWs dT b (zNew h c n) := by
  have h1 : (zNew h c n).1.1 = h.1.1 + 1 := rfl
  simp only [zWs, h1, List.range_succ, List.map_append, List.map_cons, List.map_nil, ← he]
  congr 1
  apply List.map_congr_left
  intro i hi
  rw [zE_new_old (List.mem_range.mp hi)]
