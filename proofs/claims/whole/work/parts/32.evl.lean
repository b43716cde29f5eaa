/-! Locals that nobody reads any more may go -/
def tm_fn (lo : tm_L) : Prop := ∀ (i : Nat) (v w : tm_V), (i, v) ∈ lo → (i, w) ∈ lo → v = w
theorem tm_fn_nd : ∀ {lo : tm_L}, va_nd (lo.map (fun q => q.1)) = true → tm_fn lo
  | [], _ => fun i v w h => by cases h
  | q :: t, h => by
    simp only [List.map_cons, va_nd, Bool.and_eq_true, decide_eq_true_eq] at h
    intro i v w h1 h2
    obtain ⟨j, u⟩ := q
    rcases List.mem_cons.mp h1 with e1 | g1
    · rcases List.mem_cons.mp h2 with e2 | g2
      · cases e1; cases e2; rfl
      · cases e1; exact absurd (List.mem_map.mpr ⟨(i, w), g2, rfl⟩) h.1
    · rcases List.mem_cons.mp h2 with e2 | g2
      · cases e2; exact absurd (List.mem_map.mpr ⟨(i, v), g1, rfl⟩) h.1
      · exact tm_fn_nd h.2 i v w g1 g2
theorem tm_fn_look {lo : tm_L} (hf : tm_fn lo) {i : Nat} {v : tm_V} (h : (i, v) ∈ lo) : lo.lookup i = some v := by
  induction lo with
  | nil => cases h
  | cons q t ih =>
    obtain ⟨j, w⟩ := q
    rw [List.lookup_cons]
    by_cases e : i = j
    · subst e
      simp only [beq_self_eq_true]
      rw [hf i v w h List.mem_cons_self]
    · have : (i == j) = false := by simpa using e
      rw [this]
      refine ih (fun a b c h1 h2 => hf a b c (List.mem_cons_of_mem _ h1) (List.mem_cons_of_mem _ h2)) ?_
      rcases List.mem_cons.mp h with h3 | h3
      · cases h3; exact absurd rfl e
      · exact h3
theorem tm_look_sub {lo lo' : tm_L} (hf : tm_fn lo) (hs : ∀ q ∈ lo', q ∈ lo) {i : Nat} {v : tm_V} (h : lo'.lookup i = some v) : lo.lookup i = some v := tm_fn_look hf (hs _ (tm_cL_look (ad := id) h))
theorem tm_set1_sub {lo lo' : tm_L} (hs : ∀ q ∈ lo', q ∈ lo) (i : Nat) (v : tm_V) : ∀ q ∈ tm_set1 lo' i v, q ∈ tm_set1 lo i v := by
  intro q hq
  rcases List.mem_cons.mp hq with rfl | hq
  · exact List.mem_cons_self
  · obtain ⟨h1, h2⟩ := List.mem_filter.mp hq
    exact List.mem_cons_of_mem _ (List.mem_filter.mpr ⟨hs q h1, h2⟩)
theorem tm_set2_sub {lo lo' : tm_L} (hs : ∀ q ∈ lo', q ∈ lo) (i : Nat) (v : tm_V) : ∀ q ∈ tm_set2 lo' i v, q ∈ tm_set2 lo i v := by
  intro q hq
  rcases List.mem_cons.mp hq with rfl | hq
  · exact List.mem_cons_self
  · obtain ⟨h1, h2⟩ := List.mem_filter.mp hq
    exact List.mem_cons_of_mem _ (List.mem_filter.mpr ⟨hs q h1, h2⟩)
theorem tm_set1_fn {lo : tm_L} (hf : tm_fn lo) (i : Nat) (v : tm_V) : tm_fn (tm_set1 lo i v) := by
  intro a b c h1 h2
  rcases List.mem_cons.mp h1 with e1 | h1 <;> rcases List.mem_cons.mp h2 with e2 | h2
  · cases e1; cases e2; rfl
  · cases e1; have := (List.mem_filter.mp h2).2; simp at this
  · cases e2; have := (List.mem_filter.mp h1).2; simp at this
  · exact hf a b c (List.mem_filter.mp h1).1 (List.mem_filter.mp h2).1
theorem tm_set2_fn {lo : tm_L} (hf : tm_fn lo) (i : Nat) (v : tm_V) : tm_fn (tm_set2 lo i v) := by
  intro a b c h1 h2
  rcases List.mem_cons.mp h1 with e1 | h1 <;> rcases List.mem_cons.mp h2 with e2 | h2
  · cases e1; cases e2; rfl
  · cases e1; have := (List.mem_filter.mp h2).2; simp at this
  · cases e2; have := (List.mem_filter.mp h1).2; simp at this
  · exact hf a b c (List.mem_filter.mp h1).1 (List.mem_filter.mp h2).1
theorem tm_lo_sub {nL : Nat} {i : tm_J} {lo lo' l1 : tm_L} {st st' : List tm_V} (hf : tm_fn lo) (hs : ∀ q ∈ lo', q ∈ lo) (h : tm_lo nL i lo' st = some (l1, st')) : ∃ l2, tm_lo nL i lo st = some (l2, st') ∧ tm_fn l2 ∧ ∀ q ∈ l1, q ∈ l2 := by
  have I : ∀ {k : Nat}, tm_ldi lo' st k = some (l1, st') → ∃ l2, tm_ldi lo st k = some (l2, st') ∧ tm_fn l2 ∧ ∀ q ∈ l1, q ∈ l2 := by
    intro k h; obtain ⟨x, e, rfl, rfl⟩ := tm_ldi_inv h
    exact ⟨lo, by unfold tm_ldi; rw [tm_look_sub hf hs e], hf, hs⟩
  have J : ∀ {k : Nat}, tm_ldl lo' st k = some (l1, st') → ∃ l2, tm_ldl lo st k = some (l2, st') ∧ tm_fn l2 ∧ ∀ q ∈ l1, q ∈ l2 := by
    intro k h; obtain ⟨x, e, rfl, rfl⟩ := tm_ldl_inv h
    exact ⟨lo, by unfold tm_ldl; rw [tm_look_sub hf hs e], hf, hs⟩
  have A : ∀ {k : Nat}, tm_lda lo' st k = some (l1, st') → ∃ l2, tm_lda lo st k = some (l2, st') ∧ tm_fn l2 ∧ ∀ q ∈ l1, q ∈ l2 := by
    intro k h; obtain ⟨x, e, rfl, rfl⟩ := tm_lda_inv h
    exact ⟨lo, by unfold tm_lda; rw [tm_look_sub hf hs e], hf, hs⟩
  have SI : ∀ {k : Nat}, tm_sti nL lo' st k = some (l1, st') → ∃ l2, tm_sti nL lo st k = some (l2, st') ∧ tm_fn l2 ∧ ∀ q ∈ l1, q ∈ l2 := by
    intro k h; obtain ⟨x, rfl, e, rfl⟩ := tm_sti_inv h
    exact ⟨_, by unfold tm_sti; simp only [if_pos e], tm_set1_fn hf _ _, tm_set1_sub hs _ _⟩
  have SL : ∀ {k : Nat}, tm_stl nL lo' st k = some (l1, st') → ∃ l2, tm_stl nL lo st k = some (l2, st') ∧ tm_fn l2 ∧ ∀ q ∈ l1, q ∈ l2 := by
    intro k h; obtain ⟨x, rfl, e, rfl⟩ := tm_stl_inv h
    exact ⟨_, by unfold tm_stl; simp only [if_pos e], tm_set2_fn hf _ _, tm_set2_sub hs _ _⟩
  have SA : ∀ {k : Nat}, tm_sta nL lo' st k = some (l1, st') → ∃ l2, tm_sta nL lo st k = some (l2, st') ∧ tm_fn l2 ∧ ∀ q ∈ l1, q ∈ l2 := by
    intro k h; obtain ⟨x, rfl, e, rfl⟩ := tm_sta_inv h
    exact ⟨_, by unfold tm_sta; simp only [if_pos e], tm_set1_fn hf _ _, tm_set1_sub hs _ _⟩
  unfold tm_lo at h ⊢
  split at h
  · exact I h
  · exact I h
  · exact J h
  · exact J h
  · exact A h
  · exact A h
  · exact SI h
  · exact SI h
  · exact SL h
  · exact SL h
  · exact SA h
  · exact SA h
  · split at h
    · next x e =>
      split at h
      · next hk =>
        cases h
        refine ⟨_, ?_, tm_set1_fn hf _ _, tm_set1_sub hs _ _⟩
        simp only [tm_look_sub hf hs e, if_pos hk]
      · cases h
    · cases h
  · cases h
theorem tm_run_sub {tb : Nat → Nat → Option tm_I} {mi : Nat → Nat × Nat × Nat × Nat} {df : Nat → List tm_V} : ∀ (n k pc : Nat) (lo lo' : tm_L) (st : List tm_V) (h : tm_H) (bc bs : Nat) (r : Option tm_V × tm_H), tm_fn lo → (∀ q ∈ lo', q ∈ lo) → tm_run tb mi df n k pc lo' st h bc bs = some r → tm_run tb mi df n k pc lo st h bc bs = some r := by
  intro n
  induction n with
  | zero => intro k pc lo lo' st h bc bs r hf hs hr; simp [tm_run] at hr
  | succ n ih =>
    intro k pc lo lo' st h bc bs r hf hs hr
    unfold tm_run at hr ⊢
    split at hr
    · cases hr
    · next i xs c hi =>
      try simp only [hi]
      split at hr
      · next hk =>
        try simp only [hk]
        split at hr
        · next e => (try simp only [e]); exact ih _ _ _ _ _ _ _ _ _ hf hs hr
        · cases hr
      · next hk =>
        try simp only [hk]
        split at hr
        · next l1 st1 e =>
          obtain ⟨l2, e2, hf2, hs2⟩ := tm_lo_sub hf hs e
          simp only [e2]
          exact ih _ _ _ _ _ _ _ _ _ hf2 hs2 hr
        · cases hr
      · next hk =>
        try simp only [hk]
        split at hr
        · next e => (try simp only [e]); exact ih _ _ _ _ _ _ _ _ _ hf hs hr
        · cases hr
      · next hk =>
        try simp only [hk]
        split at hr
        · next e => (try simp only [e]); exact ih _ _ _ _ _ _ _ _ _ hf hs hr
        · cases hr
      · next hk =>
        try simp only [hk]
        split at hr
        · next e =>
          split at hr
          · next hc => (try simp only [e]); (try simp only [if_pos hc]); exact ih _ _ _ _ _ _ _ _ _ hf hs hr
          · cases hr
        · cases hr
      · next hk =>
        try simp only [hk]
        split at hr
        · next e => (try simp only [e]); exact ih _ _ _ _ _ _ _ _ _ hf hs hr
        · cases hr
      · next hk =>
        try simp only [hk]
        exact hr
      · next hk =>
        try simp only [hk]
        split at hr
        · split at hr
          · next hc =>
            try simp only [if_pos hc]
            split at hr
            · next e => (try simp only [e]); exact ih _ _ _ _ _ _ _ _ _ hf hs hr
            · cases hr
          · cases hr
        · cases hr
      · next hk =>
        try simp only [hk]
        split at hr
        · split at hr
          · next hc => (try simp only [if_pos hc]); exact ih _ _ _ _ _ _ _ _ _ hf hs hr
          · cases hr
        · cases hr
      · cases hr
def tm_pick (lo : tm_L) (ks : List Nat) : tm_L := ks.filterMap (fun i => (lo.lookup i).map (fun v => (i, v)))
theorem tm_pick_sub (lo : tm_L) (ks : List Nat) : ∀ q ∈ tm_pick lo ks, q ∈ lo := by
  intro q hq
  obtain ⟨i, -, hi⟩ := List.mem_filterMap.mp hq
  cases e : lo.lookup i with
  | none => rw [e] at hi; cases hi
  | some v => rw [e] at hi; cases hi; exact tm_cL_look (ad := id) e
theorem ev_pick {k pc : Nat} {lo lo' : tm_L} {st : List tm_V} {M : ev_M} {Q : Option tm_V → ev_M → Prop} (ks : List Nat) (hn : va_nd (lo.map (fun q => q.1)) = true) (hl : tm_pick lo ks = lo') (e : ev k pc lo' st M Q) : ev k pc lo st M Q := by
  obtain ⟨n, v, M', h1, h2⟩ := e
  subst hl
  exact ⟨n, v, M', tm_run_sub _ _ _ _ _ _ _ _ _ _ (tm_fn_nd hn) (tm_pick_sub lo ks) h1, h2⟩
