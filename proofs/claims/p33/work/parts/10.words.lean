/-! the words that stay, out of the tables -/
def q_W : List Cond := lw_tbl.filter goodWord
theorem q_in {w : Cond} (h1 : w ∈ lw_tbl) (h2 : goodWord w = true) : w ∈ q_W := List.mem_filter.mpr ⟨h1, h2⟩
/-- the words that aren't 'good' but stay all the same -/
def q_nest (w : Cond) : Bool := match w with
  | .fieldLinkNest .. => true
  | .methodLinkNest .. => true
  | .castable .. => true
  | .declares .. => true
  | _ => false
def q_N : List Cond := lw_tbl.filter q_nest
theorem q_inN {w : Cond} (h1 : w ∈ lw_tbl) (h2 : q_nest w = true) : w ∈ q_N := List.mem_filter.mpr ⟨h1, h2⟩
theorem q_nest_warm {w : Cond} (hw : q_nest w = true) {s U : State} (hW : s.WarmedH U.vm) (h : va_Nw w s) : va_Nw w U := by
  cases w <;> first | exact va_Nw.warmF hW h | exact va_Nw.warmM hW h | exact va_Nw.warmC hW h | exact va_Nw.warmD hW h | (exact absurd hw (by simp [q_nest]))
