/-! From the small machine to the model: one instruction -/
section TMX
variable {p : Program} {l : Launch} {e : Env} {R : Room} {s : State} {m : MethodId} {args : Array Value} {below : List Frame} {meth : Method} {c : Code} {H : Heap} {locs : List Loc} {cells slots : Nat} {Q : State → Prop} {cc : ByteArray} {pc : Nat} {ls : Array Slot}
theorem tm_pu_W (hx : p.tables.exec = Jvm.exec) (hb : c.code = cc) {ad : Nat → Nat} {n : Nat} {i : tm_J} {st st' : List tm_V} (hd : decode cc pc = .ok (i, tm_len i)) (h : tm_pu i st = some st') (ho : ∀ v ∈ st, tm_ok n v)
    (k : W p l e R s m args below meth c H locs cells slots Q (F0 m (pc + tm_len i) ls (st'.map (tm_cv ad)))) : W p l e R s m args below meth c H locs cells slots Q (F0 m pc ls (st.map (tm_cv ad))) := by
  unfold tm_pu at h
  split at h
  · split at h
    · cases h; exact lv_iconst hx hb hd rfl k
    · cases h
  · split at h
    · next z hn =>
      cases h
      refine lv_bipush hx hb hd ?_ k
      apply Int32.toInt_inj.mp
      rw [tm_toI ⟨by omega, by omega⟩, Int8.toInt_toInt32, Int8.toInt_ofInt_of_le (by omega) (by omega)]
    · cases h
  · split at h
    · next z hn =>
      cases h
      refine lv_sipush hx hb hd ?_ k
      apply Int32.toInt_inj.mp
      rw [tm_toI ⟨by omega, by omega⟩, Int16.toInt_toInt32, Int16.toInt_ofInt_of_le (by omega) (by omega)]
    · cases h
  · cases h
    exact lv_lconst hx hb hd (by first | rfl | simp) k
  · obtain ⟨x, y, r, rfl, rfl⟩ := tm_ii_inv h
    rw [List.map_cons, tm_cvi] at k
    exact lv_iadd hx hb hd k
  · obtain ⟨x, y, r, rfl, rfl⟩ := tm_ii_inv h
    rw [List.map_cons, tm_cvi] at k
    exact lv_isub hx hb hd k
  · obtain ⟨x, y, r, rfl, rfl⟩ := tm_ii_inv h
    rw [List.map_cons, tm_cvi] at k
    exact lv_imul hx hb hd k
  · obtain ⟨x, y, r, rfl, rfl⟩ := tm_ii_inv h
    rw [List.map_cons, tm_cvi] at k
    exact lv_iand hx hb hd k
  · obtain ⟨x, y, r, rfl, rfl⟩ := tm_ii_inv h
    rw [List.map_cons, tm_cvi] at k
    exact lv_ior hx hb hd k
  · obtain ⟨x, y, r, rfl, rfl⟩ := tm_ii_inv h
    rw [List.map_cons, tm_cvi] at k
    exact lv_ixor hx hb hd k
  · obtain ⟨x, y, r, rfl, rfl⟩ := tm_ii_inv h
    rw [List.map_cons, tm_cvi] at k
    exact lv_ishl hx hb hd k
  · obtain ⟨x, y, r, rfl, rfl⟩ := tm_ii_inv h
    rw [List.map_cons, tm_cvi] at k
    exact lv_ishr hx hb hd k
  · obtain ⟨x, y, r, v, rfl, h2, rfl⟩ := tm_bi_inv h
    split at h2
    · cases h2
    · next hy =>
      cases h2
      rw [List.map_cons, tm_i2, tm_cvi] at k
      have hyk : tm_iI y := ho (.inl y) (by simp)
      exact lv_idiv hx hb hd (fun q => hy ((tm_eqI hyk ⟨by omega, by omega⟩).mp q)) k
  · obtain ⟨x, y, r, v, rfl, h2, rfl⟩ := tm_bi_inv h
    split at h2
    · cases h2
    · next hy =>
      cases h2
      rw [List.map_cons, tm_i2, tm_cvi] at k
      have hyk : tm_iI y := ho (.inl y) (by simp)
      exact lv_irem hx hb hd (fun q => hy ((tm_eqI hyk ⟨by omega, by omega⟩).mp q)) k
  · obtain ⟨x, y, r, rfl, rfl⟩ := tm_ll_inv h
    rw [List.map_cons, tm_cvl] at k
    exact lv_ladd hx hb hd k
  · obtain ⟨x, y, r, rfl, rfl⟩ := tm_ll_inv h
    rw [List.map_cons, tm_cvl] at k
    exact lv_lsub hx hb hd k
  · obtain ⟨x, y, r, rfl, rfl⟩ := tm_ll_inv h
    rw [List.map_cons, tm_cvl] at k
    exact lv_lmul hx hb hd k
  · obtain ⟨x, y, r, rfl, rfl⟩ := tm_ll_inv h
    rw [List.map_cons, tm_cvl] at k
    exact lv_land hx hb hd k
  · obtain ⟨x, y, r, rfl, rfl⟩ := tm_ll_inv h
    rw [List.map_cons, tm_cvl] at k
    exact lv_lor hx hb hd k
  · obtain ⟨x, y, r, rfl, rfl⟩ := tm_ll_inv h
    rw [List.map_cons, tm_cvl] at k
    exact lv_lxor hx hb hd k
  · obtain ⟨x, y, r, v, rfl, h2, rfl⟩ := tm_bl_inv h
    split at h2
    · cases h2
    · next hy =>
      cases h2
      rw [List.map_cons, tm_l2, tm_cvl] at k
      have hyk : tm_iL y := ho (.inr (.inl y)) (by simp)
      exact lv_ldiv hx hb hd (fun q => hy (by have h2 := congrArg Int64.toInt q; rw [tm_toL hyk] at h2; exact h2)) k
  · obtain ⟨x, y, r, v, rfl, h2, rfl⟩ := tm_bl_inv h
    split at h2
    · cases h2
    · next hy =>
      cases h2
      rw [List.map_cons, tm_l2, tm_cvl] at k
      have hyk : tm_iL y := ho (.inr (.inl y)) (by simp)
      exact lv_lrem hx hb hd (fun q => hy (by have h2 := congrArg Int64.toInt q; rw [tm_toL hyk] at h2; exact h2)) k
  · obtain ⟨x, y, r, v, rfl, h2, rfl⟩ := tm_bs_inv h
    cases h2
    rw [List.map_cons, tm_cvl] at k
    exact lv_lshl hx hb hd rfl k
  · obtain ⟨x, y, r, v, rfl, h2, rfl⟩ := tm_bs_inv h
    cases h2
    rw [List.map_cons, tm_cvl] at k
    exact lv_lshr hx hb hd rfl k
  · obtain ⟨x, y, r, v, rfl, h2, rfl⟩ := tm_bs_inv h
    cases h2
    rw [List.map_cons, tm_cvl] at k
    exact lv_lushr hx hb hd rfl k
  · obtain ⟨x, y, r, v, rfl, h2, rfl⟩ := tm_bl_inv h
    cases h2
    have hxk : tm_iL x := ho (.inr (.inl x)) (by simp)
    have hyk : tm_iL y := ho (.inr (.inl y)) (by simp)
    refine W.lcmp hx hb hd ?_
    have e1 : lg_cmp (Int64.ofInt x) (Int64.ofInt y) = Int32.ofInt (if y < x then 1 else if x = y then 0 else -1) := by
      unfold lg_cmp
      have a1 : (Int64.ofInt x > Int64.ofInt y) ↔ y < x := by rw [gt_iff_lt, Int64.lt_iff_toInt_lt, tm_toL hxk, tm_toL hyk]
      have a2 : (Int64.ofInt x = Int64.ofInt y) ↔ x = y := by rw [← Int64.toInt_inj, tm_toL hxk, tm_toL hyk]
      by_cases c1 : y < x
      · rw [if_pos (a1.mpr c1), if_pos c1]; rfl
      · rw [if_neg (fun z => c1 (a1.mp z)), if_neg c1]
        by_cases c2 : x = y
        · rw [if_pos (a2.mpr c2), if_pos c2]; rfl
        · rw [if_neg (fun z => c2 (a2.mp z)), if_neg c2]; rfl
    rw [e1]
    exact k
  · split at h
    · next x r =>
      cases h
      have hxk : tm_iI x := ho (.inl x) (by simp)
      refine lv_i2l hx hb hd ?_ k
      apply Int64.toInt_inj.mp
      rw [tm_toL ⟨by have := hxk.1; omega, by have := hxk.2; omega⟩, Int32.toInt_toInt64, tm_toI hxk]
    · cases h
  · split at h
    · next x r =>
      cases h
      rw [List.map_cons, tm_cvi] at k
      exact lv_l2i hx hb hd rfl k
    · cases h
  · split at h
    · split at h
      · next v r hv =>
        cases h
        exact lv_dup hx hb hd (by rw [tm_cat_cv]; exact hv) k
      · cases h
    · cases h
  · split at h
    · split at h
      · next v r hv =>
        cases h
        exact lv_pop hx hb hd (by rw [tm_cat_cv]; exact hv) k
      · cases h
    · cases h
  · split at h
    · split at h
      · next v w r hv =>
        cases h
        exact lv_dup_x1 hx hb hd (by rw [tm_cat_cv]; exact hv.1) (by rw [tm_cat_cv]; exact hv.2) k
      · cases h
    · cases h
  · split at h
    · split at h
      · next v w u r hv =>
        cases h
        exact lv_dup_x2 hx hb hd (by rw [tm_cat_cv]; exact hv.1) (by rw [tm_cat_cv]; exact hv.2.1) (by rw [tm_cat_cv]; exact hv.2.2) k
      · cases h
    · cases h
  · split at h
    · split at h
      · next v w r hv =>
        cases h
        exact lv_dup2_11 hx hb hd (by rw [tm_cat_cv]; exact hv.1) (by rw [tm_cat_cv]; exact hv.2) k
      · cases h
    · cases h
  · cases h
/-- locals as the model has them -/
def tm_cL (ad : Nat → Nat) (lo : tm_L) : List (Nat × Value) := lo.map (fun q => (q.1, tm_cv ad q.2))
theorem tm_cL_look {ad : Nat → Nat} {lo : tm_L} {i : Nat} {v : tm_V} (h : lo.lookup i = some v) : (i, v) ∈ lo := by
  induction lo with
  | nil => cases h
  | cons q t ih =>
    obtain ⟨j, w⟩ := q
    rw [List.lookup_cons] at h
    split at h
    · next e => cases h; rw [eq_of_beq e]; exact List.mem_cons_self
    · exact List.mem_cons_of_mem _ (ih h)
theorem tm_cL_at {ad : Nat → Nat} {lo : tm_L} {nL i : Nat} {v : tm_V} (hl : lv_has ls nL (tm_cL ad lo)) (h : lo.lookup i = some v) : ls[i]? = some (.val (tm_cv ad v)) :=
  hl.2.2 (i, tm_cv ad v) (List.mem_map.mpr ⟨(i, v), tm_cL_look (ad := ad) h, rfl⟩)
theorem tm_cL_set1 {ad : Nat → Nat} {lo : tm_L} {i : Nat} {v : tm_V} : tm_cL ad (tm_set1 lo i v) = (i, tm_cv ad v) :: (tm_cL ad lo).filter (fun q => !(q.1 == i) && !(q.1 + 1 == i && q.2.category == 2)) := by
  have e : (fun q : Nat × tm_V => !(q.1 == i) && !(q.1 + 1 == i && tm_cat q.2 == 2)) = ((fun q : Nat × Value => !(q.1 == i) && !(q.1 + 1 == i && q.2.category == 2)) ∘ fun q : Nat × tm_V => (q.1, tm_cv ad q.2)) := by
    funext q
    simp [tm_cat_cv]
  unfold tm_cL tm_set1
  rw [List.map_cons, List.filter_map, ← e]
theorem tm_cL_set2 {ad : Nat → Nat} {lo : tm_L} {i : Nat} {v : tm_V} : tm_cL ad (tm_set2 lo i v) = (i, tm_cv ad v) :: (tm_cL ad lo).filter (fun q => !(q.1 == i) && (!(q.1 == i + 1) && !(q.1 + 1 == i && q.2.category == 2))) := by
  have e : (fun q : Nat × tm_V => !(q.1 == i) && (!(q.1 == i + 1) && !(q.1 + 1 == i && tm_cat q.2 == 2))) = ((fun q : Nat × Value => !(q.1 == i) && (!(q.1 == i + 1) && !(q.1 + 1 == i && q.2.category == 2))) ∘ fun q : Nat × tm_V => (q.1, tm_cv ad q.2)) := by
    funext q
    simp [tm_cat_cv]
  unfold tm_cL tm_set2
  rw [List.map_cons, List.filter_map, ← e]
theorem tm_set1_ok {n : Nat} {lo : tm_L} {i : Nat} {v : tm_V} (hv : tm_ok n v) (ho : ∀ q ∈ lo, tm_ok n q.2) : ∀ q ∈ tm_set1 lo i v, tm_ok n q.2 := by
  intro q hq
  rcases List.mem_cons.mp hq with rfl | hq
  · exact hv
  · exact ho q (List.mem_filter.mp hq).1
theorem tm_set2_ok {n : Nat} {lo : tm_L} {i : Nat} {v : tm_V} (hv : tm_ok n v) (ho : ∀ q ∈ lo, tm_ok n q.2) : ∀ q ∈ tm_set2 lo i v, tm_ok n q.2 := by
  intro q hq
  rcases List.mem_cons.mp hq with rfl | hq
  · exact hv
  · exact ho q (List.mem_filter.mp hq).1
theorem tm_ldi_inv {lo lo' : tm_L} {st st' : List tm_V} {i : Nat} (h : tm_ldi lo st i = some (lo', st')) : ∃ x, lo.lookup i = some (.inl x) ∧ lo' = lo ∧ st' = .inl x :: st := by
  unfold tm_ldi at h
  split at h
  · next x e => cases h; exact ⟨x, e, rfl, rfl⟩
  · cases h
theorem tm_ldl_inv {lo lo' : tm_L} {st st' : List tm_V} {i : Nat} (h : tm_ldl lo st i = some (lo', st')) : ∃ x, lo.lookup i = some (.inr (.inl x)) ∧ lo' = lo ∧ st' = .inr (.inl x) :: st := by
  unfold tm_ldl at h
  split at h
  · next x e => cases h; exact ⟨x, e, rfl, rfl⟩
  · cases h
theorem tm_lda_inv {lo lo' : tm_L} {st st' : List tm_V} {i : Nat} (h : tm_lda lo st i = some (lo', st')) : ∃ x, lo.lookup i = some (.inr (.inr (some x))) ∧ lo' = lo ∧ st' = .inr (.inr (some x)) :: st := by
  unfold tm_lda at h
  split at h
  · next x e => cases h; exact ⟨x, e, rfl, rfl⟩
  · cases h
theorem tm_sti_inv {nL : Nat} {lo lo' : tm_L} {st st' : List tm_V} {i : Nat} (h : tm_sti nL lo st i = some (lo', st')) : ∃ x, st = .inl x :: st' ∧ i < nL ∧ lo' = tm_set1 lo i (.inl x) := by
  unfold tm_sti at h
  split at h
  · split at h
    · next x r hi => cases h; exact ⟨x, rfl, hi, rfl⟩
    · cases h
  · cases h
theorem tm_stl_inv {nL : Nat} {lo lo' : tm_L} {st st' : List tm_V} {i : Nat} (h : tm_stl nL lo st i = some (lo', st')) : ∃ x, st = .inr (.inl x) :: st' ∧ i + 1 < nL ∧ lo' = tm_set2 lo i (.inr (.inl x)) := by
  unfold tm_stl at h
  split at h
  · split at h
    · next x r hi => cases h; exact ⟨x, rfl, hi, rfl⟩
    · cases h
  · cases h
theorem tm_sta_inv {nL : Nat} {lo lo' : tm_L} {st st' : List tm_V} {i : Nat} (h : tm_sta nL lo st i = some (lo', st')) : ∃ x, st = .inr (.inr (some x)) :: st' ∧ i < nL ∧ lo' = tm_set1 lo i (.inr (.inr (some x))) := by
  unfold tm_sta at h
  split at h
  · split at h
    · next x r hi => cases h; exact ⟨x, rfl, hi, rfl⟩
    · cases h
  · cases h
theorem tm_lo_ok {n nL : Nat} {i : tm_J} {lo lo' : tm_L} {st st' : List tm_V} (h : tm_lo nL i lo st = some (lo', st')) (ho : ∀ q ∈ lo, tm_ok n q.2) (hs : ∀ v ∈ st, tm_ok n v) : (∀ q ∈ lo', tm_ok n q.2) ∧ ∀ v ∈ st', tm_ok n v := by
  have L : ∀ {k : Nat} {v : tm_V}, lo.lookup k = some v → (∀ q ∈ lo, tm_ok n q.2) ∧ ∀ w ∈ v :: st, tm_ok n w := by
    intro k v e
    refine ⟨ho, fun w hw => ?_⟩
    rcases List.mem_cons.mp hw with rfl | hw
    · exact ho _ (tm_cL_look (ad := id) e)
    · exact hs w hw
  have I : ∀ {k : Nat}, tm_ldi lo st k = some (lo', st') → (∀ q ∈ lo', tm_ok n q.2) ∧ ∀ v ∈ st', tm_ok n v := by
    intro k h; obtain ⟨x, e, rfl, rfl⟩ := tm_ldi_inv h; exact L e
  have J : ∀ {k : Nat}, tm_ldl lo st k = some (lo', st') → (∀ q ∈ lo', tm_ok n q.2) ∧ ∀ v ∈ st', tm_ok n v := by
    intro k h; obtain ⟨x, e, rfl, rfl⟩ := tm_ldl_inv h; exact L e
  have A : ∀ {k : Nat}, tm_lda lo st k = some (lo', st') → (∀ q ∈ lo', tm_ok n q.2) ∧ ∀ v ∈ st', tm_ok n v := by
    intro k h; obtain ⟨x, e, rfl, rfl⟩ := tm_lda_inv h; exact L e
  have SI : ∀ {k : Nat}, tm_sti nL lo st k = some (lo', st') → (∀ q ∈ lo', tm_ok n q.2) ∧ ∀ v ∈ st', tm_ok n v := by
    intro k h; obtain ⟨x, rfl, e, rfl⟩ := tm_sti_inv h
    exact ⟨tm_set1_ok (hs _ List.mem_cons_self) ho, fun v hv => hs v (List.mem_cons_of_mem _ hv)⟩
  have SL : ∀ {k : Nat}, tm_stl nL lo st k = some (lo', st') → (∀ q ∈ lo', tm_ok n q.2) ∧ ∀ v ∈ st', tm_ok n v := by
    intro k h; obtain ⟨x, rfl, e, rfl⟩ := tm_stl_inv h
    exact ⟨tm_set2_ok (hs _ List.mem_cons_self) ho, fun v hv => hs v (List.mem_cons_of_mem _ hv)⟩
  have SA : ∀ {k : Nat}, tm_sta nL lo st k = some (lo', st') → (∀ q ∈ lo', tm_ok n q.2) ∧ ∀ v ∈ st', tm_ok n v := by
    intro k h; obtain ⟨x, rfl, e, rfl⟩ := tm_sta_inv h
    exact ⟨tm_set1_ok (hs _ List.mem_cons_self) ho, fun v hv => hs v (List.mem_cons_of_mem _ hv)⟩
  unfold tm_lo at h
  split at h
  · exact I h
  · exact I h
  · exact J h
  · exact J h
  · exact A h
  · exact A h
  · exact SI h
  · exact SI h
  · exact SL h
  · exact SL h
  · exact SA h
  · exact SA h
  · split at h
    · split at h
      · cases h; exact ⟨tm_set1_ok (tm_iI_of _) ho, hs⟩
      · cases h
    · cases h
  · cases h
theorem tm_lo_W (hx : p.tables.exec = Jvm.exec) (hb : c.code = cc) {ad : Nat → Nat} {nL : Nat} {i : tm_J} {lo lo' : tm_L} {st st' : List tm_V} (hd : decode cc pc = .ok (i, tm_len i)) (h : tm_lo nL i lo st = some (lo', st')) (hl : lv_has ls nL (tm_cL ad lo))
    (k : ∀ ls' : Array Slot, lv_has ls' nL (tm_cL ad lo') → W p l e R s m args below meth c H locs cells slots Q (F0 m (pc + tm_len i) ls' (st'.map (tm_cv ad)))) : W p l e R s m args below meth c H locs cells slots Q (F0 m pc ls (st.map (tm_cv ad))) := by
  unfold tm_lo at h
  split at h
  · obtain ⟨x, e, rfl, rfl⟩ := tm_ldi_inv h
    exact lv_iload_n hx hb hd rfl (tm_cL_at hl e) (k ls hl)
  · obtain ⟨x, e, rfl, rfl⟩ := tm_ldi_inv h
    exact lv_iload hx hb hd (tm_cL_at hl e) (k ls hl)
  · obtain ⟨x, e, rfl, rfl⟩ := tm_ldl_inv h
    exact lv_lload_n hx hb hd rfl (tm_cL_at hl e) (k ls hl)
  · obtain ⟨x, e, rfl, rfl⟩ := tm_ldl_inv h
    exact lv_lload hx hb hd (tm_cL_at hl e) (k ls hl)
  · obtain ⟨x, e, rfl, rfl⟩ := tm_lda_inv h
    exact lv_aload_n hx hb hd rfl (tm_cL_at hl e) (k ls hl)
  · obtain ⟨x, e, rfl, rfl⟩ := tm_lda_inv h
    exact lv_aload hx hb hd (tm_cL_at hl e) (k ls hl)
  · obtain ⟨x, rfl, e, rfl⟩ := tm_sti_inv h
    exact lv_istore_n hx hb hd rfl hl e (tm_cL_set1 (v := .inl x)).symm k
  · obtain ⟨x, rfl, e, rfl⟩ := tm_sti_inv h
    exact lv_istore hx hb hd hl e (tm_cL_set1 (v := .inl x)).symm k
  · obtain ⟨x, rfl, e, rfl⟩ := tm_stl_inv h
    exact lv_lstore_n hx hb hd rfl hl e (tm_cL_set2 (v := .inr (.inl x))).symm k
  · obtain ⟨x, rfl, e, rfl⟩ := tm_stl_inv h
    exact lv_lstore hx hb hd hl e (tm_cL_set2 (v := .inr (.inl x))).symm k
  · obtain ⟨x, rfl, e, rfl⟩ := tm_sta_inv h
    exact lv_astore_n hx hb hd rfl hl e (tm_cL_set1 (v := .inr (.inr (some x)))).symm k
  · obtain ⟨x, rfl, e, rfl⟩ := tm_sta_inv h
    exact lv_astore hx hb hd hl e (tm_cL_set1 (v := .inr (.inr (some x)))).symm k
  · split at h
    · next x e =>
      split at h
      · next hk =>
        cases h
        obtain ⟨j, hj⟩ := List.getElem?_of_mem (List.mem_map.mpr ⟨(_, _), tm_cL_look (ad := ad) e, rfl⟩ : (_, tm_cv ad (.inl x)) ∈ tm_cL ad lo)
        refine lv_iinc hx hb hd hl hj rfl hk (by rw [tm_cL_set1]; unfold tm_i2; rw [tm_cvi]) k
      · cases h
    · cases h
  · cases h
theorem tm_br_W (hx : p.tables.exec = Jvm.exec) (hb : c.code = cc) {ad : Nat → Nat} {n : Nat} {i : tm_J} {pc' : Nat} {st st' : List tm_V} (hd : decode cc pc = .ok (i, tm_len i)) (h : tm_br i pc st = some (pc', st')) (ho : ∀ v ∈ st, tm_ok n v)
    (k : W p l e R s m args below meth c H locs cells slots Q (F0 m pc' ls (st'.map (tm_cv ad)))) : W p l e R s m args below meth c H locs cells slots Q (F0 m pc ls (st.map (tm_cv ad))) := by
  unfold tm_br at h
  split at h
  · next cd off =>
    split at h
    · next x r =>
      split at h
      · next h0 =>
        cases h
        have ht : (pc : Int) + off = ((tm_go pc off : Nat) : Int) := (Int.toNat_of_nonneg h0).symm
        have hxk : tm_iI x := ho (.inl x) (by simp)
        have h00 : tm_iI 0 := ⟨by omega, by omega⟩
        cases cd <;> simp only [tm_cd, decide_eq_true_eq] at k
        · exact lv_if_eq hx hb hd ht (fun z => by rw [if_pos ((tm_eqI hxk h00).mp z)] at k; exact k) (fun z => by rw [if_neg (fun q => z ((tm_eqI hxk h00).mpr q))] at k; exact k)
        · exact lv_if_ne hx hb hd ht (fun z => by rw [if_pos (fun q => z ((tm_eqI hxk h00).mpr q))] at k; exact k) (fun z => by rw [if_neg (fun q => q ((tm_eqI hxk h00).mp z))] at k; exact k)
        · exact lv_if_lt hx hb hd ht (fun z => by rw [if_pos ((tm_ltI hxk h00).mp z)] at k; exact k) (fun z => by rw [if_neg (fun q => z ((tm_ltI hxk h00).mpr q))] at k; exact k)
        · exact lv_if_ge hx hb hd ht (fun z => by rw [if_pos ((tm_leI h00 hxk).mp z)] at k; exact k) (fun z => by rw [if_neg (fun q => z ((tm_leI h00 hxk).mpr q))] at k; exact k)
        · exact lv_if_gt hx hb hd ht (fun z => by rw [if_pos ((tm_ltI h00 hxk).mp z)] at k; exact k) (fun z => by rw [if_neg (fun q => z ((tm_ltI h00 hxk).mpr q))] at k; exact k)
        · exact lv_if_le hx hb hd ht (fun z => by rw [if_pos ((tm_leI hxk h00).mp z)] at k; exact k) (fun z => by rw [if_neg (fun q => z ((tm_leI hxk h00).mpr q))] at k; exact k)
      · cases h
    · cases h
  · next cd off =>
    split at h
    · next y x r =>
      split at h
      · next h0 =>
        cases h
        have ht : (pc : Int) + off = ((tm_go pc off : Nat) : Int) := (Int.toNat_of_nonneg h0).symm
        have hxk : tm_iI x := ho (.inl x) (by simp)
        have hyk : tm_iI y := ho (.inl y) (by simp)
        cases cd <;> simp only [tm_cd, decide_eq_true_eq] at k
        · exact lv_icmp_eq hx hb hd ht (fun z => by rw [if_pos ((tm_eqI hxk hyk).mp z)] at k; exact k) (fun z => by rw [if_neg (fun q => z ((tm_eqI hxk hyk).mpr q))] at k; exact k)
        · exact lv_icmp_ne hx hb hd ht (fun z => by rw [if_pos (fun q => z ((tm_eqI hxk hyk).mpr q))] at k; exact k) (fun z => by rw [if_neg (fun q => q ((tm_eqI hxk hyk).mp z))] at k; exact k)
        · exact lv_icmp_lt hx hb hd ht (fun z => by rw [if_pos ((tm_ltI hxk hyk).mp z)] at k; exact k) (fun z => by rw [if_neg (fun q => z ((tm_ltI hxk hyk).mpr q))] at k; exact k)
        · exact lv_icmp_ge hx hb hd ht (fun z => by rw [if_pos ((tm_leI hyk hxk).mp z)] at k; exact k) (fun z => by rw [if_neg (fun q => z ((tm_leI hyk hxk).mpr q))] at k; exact k)
        · exact lv_icmp_gt hx hb hd ht (fun z => by rw [if_pos ((tm_ltI hyk hxk).mp z)] at k; exact k) (fun z => by rw [if_neg (fun q => z ((tm_ltI hyk hxk).mpr q))] at k; exact k)
        · exact lv_icmp_le hx hb hd ht (fun z => by rw [if_pos ((tm_leI hxk hyk).mp z)] at k; exact k) (fun z => by rw [if_neg (fun q => z ((tm_leI hxk hyk).mpr q))] at k; exact k)
      · cases h
    · cases h
  · next off =>
    split at h
    · next h0 =>
      cases h
      exact lv_goto hx hb hd (Int.toNat_of_nonneg h0).symm k
    · cases h
  · cases h
theorem tm_br_ok {n : Nat} {i : tm_J} {pc pc' : Nat} {st st' : List tm_V} (h : tm_br i pc st = some (pc', st')) (ho : ∀ v ∈ st, tm_ok n v) : ∀ v ∈ st', tm_ok n v := by
  unfold tm_br at h
  split at h
  · split at h
    · split at h
      · cases h; exact fun v hv => ho v (by simp [hv])
      · cases h
    · cases h
  · split at h
    · split at h
      · cases h; exact fun v hv => ho v (by simp [hv])
      · cases h
    · cases h
  · split at h
    · cases h; exact ho
    · cases h
  · cases h
end TMX
