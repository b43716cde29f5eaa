/-! From the small machine to the model: a whole run -/
theorem tm_args_ok {n : Nat} : ∀ (i : Nat) (vs : List tm_V), (∀ v ∈ vs, tm_ok n v) → ∀ q ∈ tm_args i vs, tm_ok n q.2
  | _, [], _, q, hq => by simp [tm_args] at hq
  | i, v :: vs, h, q, hq => by
    rw [tm_args] at hq
    rcases List.mem_cons.mp hq with rfl | hq
    · exact h v List.mem_cons_self
    · exact tm_args_ok _ vs (fun w hw => h w (List.mem_cons_of_mem _ hw)) q hq
theorem tm_args_cv {ad : Nat → Nat} : ∀ (i : Nat) (vs : List tm_V), lv_args i (vs.map (tm_cv ad)) = tm_cL ad (tm_args i vs)
  | _, [] => rfl
  | i, v :: vs => by
    show (i, tm_cv ad v) :: lv_args (if (tm_cv ad v).category = 2 then i + 2 else i + 1) (vs.map (tm_cv ad)) = _
    rw [tm_cat_cv, tm_args_cv _ vs]
    rfl
theorem tm_sl_len {ad : Nat → Nat} : ∀ (vs : List tm_V), (lg_sl (vs.map (tm_cv ad))).length = tm_sum vs
  | [] => rfl
  | v :: vs => by
    have ih := tm_sl_len (ad := ad) vs
    unfold lg_sl at ih ⊢
    rw [List.map_cons, List.flatMap_cons, List.length_append, ih, tm_cat_cv]
    show _ = tm_cat v + tm_sum vs
    obtain x | x | _ | x := v <;> simp [tm_cat]
theorem tm_cat_sum {ad : Nat → Nat} (vs : List tm_V) : ((vs.map (tm_cv ad)).map fun v => v.category).sum = tm_sum vs := by
  unfold tm_sum
  rw [List.map_map]
  congr 1
  exact List.map_congr_left (fun v _ => tm_cat_cv ad v)
theorem tm_nw_ok {cl : List vw_C} {ty : Nat → Nat → FieldType} {i : tm_J} {xs : List Nat} {st st' : List tm_V} {q : tm_C} {z n : Nat} (h : tm_nw (tm_df cl ty) i xs st = some (st', q, z)) (ho : ∀ v ∈ st, tm_ok n v) : tm_okC n q ∧ ∀ v ∈ st', tm_ok n v := by
  unfold tm_nw at h
  split at h
  · split at h
    · next ci _ =>
      cases h
      refine ⟨fun v hv => ?_, ho⟩
      unfold tm_df at hv
      split at hv
      · obtain ⟨k, -, rfl⟩ := List.mem_map.mp hv
        unfold tm_dv
        split
        · exact ⟨by omega, by omega⟩
        · trivial
        · trivial
        · exact ⟨by omega, by omega⟩
      · cases hv
    · cases h
  · split at h
    · split at h
      · cases h
        refine ⟨fun j => ?_, fun v hv => ho v (by simp [hv])⟩
        show if _ then tm_iL 0 else tm_iI 0
        split
        · exact ⟨by omega, by omega⟩
        · exact ⟨by omega, by omega⟩
      · cases h
    · cases h
  · cases h
theorem tm_kc_ok {i : tm_J} {xs : List Nat} {c : Int} {st st' : List tm_V} {n : Nat} (h : tm_kc i xs c st = some st') (ho : ∀ v ∈ st, tm_ok n v) : ∀ v ∈ st', tm_ok n v := by
  unfold tm_kc at h
  split at h
  · split at h
    · next hc =>
      cases h
      intro v hv
      rcases List.mem_cons.mp hv with rfl | hv
      · exact hc
      · exact ho v hv
    · cases h
  · split at h
    · next hc =>
      cases h
      intro v hv
      rcases List.mem_cons.mp hv with rfl | hv
      · exact hc
      · exact ho v hv
    · cases h
  · cases h
theorem tm_rt_ok {i : tm_J} {rt : Nat} {st : List tm_V} {v : Option tm_V} {n : Nat} (h : tm_rt i rt st = some v) (ho : ∀ v ∈ st, tm_ok n v) : ∀ w ∈ v.toList, tm_ok n w := by
  unfold tm_rt at h
  split at h
  · split at h
    · cases h; exact ho
    · cases h
  · split at h
    · cases h; exact ho
    · cases h
  · split at h
    · cases h; exact ho
    · cases h
  · cases h
/-- a run keeps what is there, and what it leaves is in order -/
theorem tm_run_ok {tb : Nat → Nat → Option tm_I} {mi : Nat → Nat × Nat × Nat × Nat} {cl : List vw_C} {ty : Nat → Nat → FieldType} : ∀ (n k pc : Nat) (lo : tm_L) (st : List tm_V) (h : tm_H) (bc bs : Nat) (v : Option tm_V) (h' : tm_H), tm_run tb mi (tm_df cl ty) n k pc lo st h bc bs = some (v, h') → (∀ q ∈ lo, tm_ok h.length q.2) → (∀ w ∈ st, tm_ok h.length w) → tm_okH h → h.length ≤ h'.length ∧ tm_okH h' ∧ ∀ w ∈ v.toList, tm_ok h'.length w := by
  intro n
  induction n with
  | zero => intro k pc lo st h bc bs v h' hr; simp [tm_run] at hr
  | succ n ih =>
    intro k pc lo st h bc bs v h' hr hl hs ho
    unfold tm_run at hr
    split at hr
    · cases hr
    · next i xs c hi =>
      split at hr
      · split at hr
        · next st' e => exact ih _ _ _ _ _ _ _ _ _ hr hl (tm_pu_ok e hs) ho
        · cases hr
      · split at hr
        · next lo' st' e =>
          obtain ⟨a1, a2⟩ := tm_lo_ok e hl hs
          exact ih _ _ _ _ _ _ _ _ _ hr a1 a2 ho
        · cases hr
      · split at hr
        · next pc' st' e => exact ih _ _ _ _ _ _ _ _ _ hr hl (tm_br_ok e hs) ho
        · cases hr
      · split at hr
        · next st' h1 e =>
          obtain ⟨a1, a2, a3⟩ := tm_hp_ok e hs ho
          have := ih _ _ _ _ _ _ _ _ _ hr (by rw [a1]; exact hl) (by rw [a1]; exact a3) a2
          rw [a1] at this
          exact this
        · cases hr
      · split at hr
        · next st' q z e =>
          split at hr
          · obtain ⟨a1, a2⟩ := tm_nw_ok (n := h.length) e hs
            have hlen : (h ++ [q]).length = h.length + 1 := by simp
            have := ih _ _ _ _ _ _ _ _ _ hr (fun x hx => tm_ok_mono (by omega) (hl x hx)) (fun x hx => by
              rcases List.mem_cons.mp hx with rfl | hx
              · show h.length < _; omega
              · exact tm_ok_mono (by omega) (a2 x hx)) (tm_okH_push ho a1)
            exact ⟨by omega, this.2⟩
          · cases hr
        · cases hr
      · split at hr
        · next st' e => exact ih _ _ _ _ _ _ _ _ _ hr hl (tm_kc_ok e hs) ho
        · cases hr
      · split at hr
        · next w e => cases hr; exact ⟨Nat.le_refl _, ho, tm_rt_ok e hs⟩
        · cases hr
      · split at hr
        · next y na _ =>
          split at hr
          · split at hr
            · next v1 h1 e1 =>
              obtain ⟨b1, b2, b3⟩ := ih _ _ _ _ _ _ _ _ _ e1 (tm_args_ok _ _ (fun w hw => hs w (List.mem_of_mem_take (List.mem_reverse.mp hw)))) (fun w hw => by cases hw) ho
              have := ih _ _ _ _ _ _ _ _ _ hr (fun x hx => tm_ok_mono b1 (hl x hx)) (fun x hx => by
                rcases List.mem_append.mp hx with h2 | h2
                · exact b3 x h2
                · exact tm_ok_mono b1 (hs x (List.mem_of_mem_drop h2))) b2
              exact ⟨Nat.le_trans b1 this.1, this.2⟩
            · cases hr
          · cases hr
        · cases hr
      · split at hr
        · split at hr
          · exact ih _ _ _ _ _ _ _ _ _ hr hl (fun w hw => hs w (by simp [hw])) ho
          · cases hr
        · cases hr
      · cases hr
