/-! ===== the abstract heap, calls and places inside methods ===== -/
/-- words of the tables that are carried from state to state -/
def zGood : Cond → Bool
  | .methodLinkNest .. => true
  | .arrayClass _ => true
  | w => w.onTables && w.keeps
def zGW : List Cond := lw_tbl.filter zGood
theorem z_mem {w : Cond} (h : w ∈ lw_tbl) (hg : zGood w = true) : w ∈ zGW := List.mem_filter.mpr ⟨h, hg⟩
theorem z_t1 {w : Cond} (h : w ∈ tables_1) : w ∈ lw_tbl := List.mem_append_right _ h
theorem z_tA {w : Cond} (h : w ∈ tables_1_1) : w ∈ lw_tbl := z_t1 (List.mem_append_left _ h)
theorem z_tB {w : Cond} (h : w ∈ tables_1_2) : w ∈ lw_tbl := z_t1 (List.mem_append_right _ (List.mem_append_left _ h))
theorem z_tC {w : Cond} (h : w ∈ tables_1_3) : w ∈ lw_tbl := z_t1 (List.mem_append_right _ (List.mem_append_right _ (List.mem_append_left _ h)))
theorem z_tD {w : Cond} (h : w ∈ tables_1_4) : w ∈ lw_tbl := z_t1 (List.mem_append_right _ (List.mem_append_right _ (List.mem_append_right _ (List.mem_append_left _ h))))
theorem z_tE {w : Cond} (h : w ∈ tables_1_5) : w ∈ lw_tbl := z_t1 (List.mem_append_right _ (List.mem_append_right _ (List.mem_append_right _ (List.mem_append_right _ (List.mem_append_left _ h)))))
theorem z_tF {w : Cond} (h : w ∈ tables_1_6) : w ∈ lw_tbl := z_t1 (List.mem_append_right _ (List.mem_append_right _ (List.mem_append_right _ (List.mem_append_right _ (List.mem_append_right _ (List.mem_append_left _ h))))))
theorem z_tG {w : Cond} (h : w ∈ tables_1_7) : w ∈ lw_tbl := z_t1 (List.mem_append_right _ (List.mem_append_right _ (List.mem_append_right _ (List.mem_append_right _ (List.mem_append_right _ (List.mem_append_right _ (List.mem_append_left _ h)))))))
theorem z_tH {w : Cond} (h : w ∈ tables_1_8) : w ∈ lw_tbl := z_t1 (List.mem_append_right _ (List.mem_append_right _ (List.mem_append_right _ (List.mem_append_right _ (List.mem_append_right _ (List.mem_append_right _ (List.mem_append_right _ h)))))))
theorem z_tS {w : Cond} (h : w ∈ k2_sels lw_privs) : w ∈ lw_tbl := List.mem_append_left _ h
theorem z_sub {w : Cond} (h : w ∈ zGW) : w ∈ lw_tbl := (List.mem_filter.mp h).1
/-- a word at a state, whatever the arguments -/
def zw (w : Cond) (U : State) : Prop := ∀ A : Array Value, w.before A U = true
theorem zw_calling {w : Cond} {U : State} {g : JFrame} {mk : MethodId} {a : Array Value} (hg : zGood w = true) (h : zw w U) : zw w (U.calling g mk a) := by
  intro A
  cases w <;> first | exact va_tabs rfl (rfl : U.vm = (U.calling g mk a).vm) (h A) | (simp [zGood, Cond.onTables, Cond.keeps, Cond.steady] at hg; done) | exact h A
theorem zw_warm {w : Cond} {s U : State} (hW : s.WarmedH U.vm) (hg : zGood w = true) (h : zw w s) : zw w U := by
  intro A
  cases w <;> first | exact word_at hW (Or.inl hg) (h #[]) | exact word_at hW (Or.inr ⟨_, rfl⟩) (h #[]) | exact va_Nw.use rfl (va_Nw.warmM hW (h #[]))
