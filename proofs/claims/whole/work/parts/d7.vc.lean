/-! The owed statement -/
theorem e_step {xs : Nat → Int32} {i : Nat} {M : ev_M} (h : INV M) : stp xs i M INV := by
  unfold stp
  split
  · exact e_rule h
  · exact e_word h
  · exact e_erase h
  · exact e_clear h
  · exact st_nullable h
  · exact e_states h
  · exact e_leads h
  · exact st_reduces h
  · exact st_stands h
  · exact st_frontier h
  · exact st_accepted h
  · exact st_used h
  · exact st_families h
  · exact st_trees h
  · exact st_length h
  · exact st_made (sv_ok _ _) h
theorem e_pure : lw_pure := fun xs => ⟨fun _ M => INV M, e_start, fun t M h _ => e_step h⟩
theorem i_vc : Claimed_1_1 ∧ Claimed_1_2 := i_vc_of e_pure
