/-! A run in a memory that is closed in itself does not see what lies behind it -/
theorem tm_ar_fr {h t : tm_H} {a k : Nat} (ha : a < h.length) : tm_ar (h ++ t) a k = tm_ar h a k := by
  unfold tm_ar
  rw [List.getElem?_append_left ha]
theorem tm_ald_fr {k : Nat} {w : Int → tm_V} {st st' : List tm_V} {h t H' : tm_H} (e : tm_ald k w st (h ++ t) = some (st', H')) (hs : ∀ v ∈ st, tm_ok h.length v) : ∃ h', tm_ald k w st h = some (st', h') ∧ H' = h' ++ t := by
  unfold tm_ald at e ⊢
  split at e
  · next i a r =>
    have ha : a < h.length := hs (.inr (.inr (some a))) (by simp)
    rw [tm_ar_fr ha] at e
    split at e
    · next n f ef =>
      split at e
      · next hi => cases e; exact ⟨h, by simp [ef, hi], rfl⟩
      · cases e
    · cases e
  · cases e
theorem tm_hp_fr {i : tm_J} {xs : List Nat} {st st' : List tm_V} {h t H' : tm_H} (e : tm_hp i xs st (h ++ t) = some (st', H')) (hs : ∀ v ∈ st, tm_ok h.length v) : ∃ h', tm_hp i xs st h = some (st', h') ∧ H' = h' ++ t := by
  unfold tm_hp at e ⊢
  split at e
  · split at e
    · next a r ci sl _ =>
      have ha : a < h.length := hs (.inr (.inr (some a))) (by simp)
      rw [List.getElem?_append_left ha] at e
      split at e
      · next cj fs ea =>
        split at e
        · next hc =>
          split at e
          · next v ev => cases e; exact ⟨h, by simp [ea, hc, ev], rfl⟩
          · cases e
        · cases e
      · cases e
    · cases e
  · split at e
    · next v a r ci sl ty _ =>
      have ha : a < h.length := hs (.inr (.inr (some a))) (by simp)
      rw [List.getElem?_append_left ha] at e
      split at e
      · next cj fs ea =>
        split at e
        · next hc => cases e; exact ⟨_, by simp [ea, hc], List.set_append_left _ _ ha⟩
        · cases e
      · cases e
    · cases e
  · exact tm_ald_fr e hs
  · exact tm_ald_fr e hs
  · exact tm_ald_fr e hs
  · split at e
    · next x j a r =>
      have ha : a < h.length := hs (.inr (.inr (some a))) (by simp)
      rw [tm_ar_fr ha] at e
      split at e
      · next n f ef =>
        split at e
        · next hj => cases e; exact ⟨_, by simp [ef, hj], List.set_append_left _ _ ha⟩
        · cases e
      · cases e
    · cases e
  · split at e
    · next x j a r =>
      have ha : a < h.length := hs (.inr (.inr (some a))) (by simp)
      rw [tm_ar_fr ha] at e
      split at e
      · next n f ef =>
        split at e
        · next hj => cases e; exact ⟨_, by simp [ef, hj], List.set_append_left _ _ ha⟩
        · cases e
      · cases e
    · cases e
  · split at e
    · next x j a r =>
      have ha : a < h.length := hs (.inr (.inr (some a))) (by simp)
      rw [tm_ar_fr ha] at e
      split at e
      · next n f ef =>
        split at e
        · next hj => cases e; exact ⟨_, by simp [ef, hj], List.set_append_left _ _ ha⟩
        · cases e
      · cases e
    · cases e
  · split at e
    · next a r =>
      have ha : a < h.length := hs (.inr (.inr (some a))) (by simp)
      rw [List.getElem?_append_left ha] at e
      split at e
      · next k n f ea =>
        split at e
        · next hn => cases e; exact ⟨h, by simp [ea, hn], rfl⟩
        · cases e
      · cases e
    · cases e
  · cases e
theorem tm_rc_fr {i : tm_J} {xs : List Nat} {as : List tm_V} {h t : tm_H} (hs : ∀ v ∈ as, tm_ok h.length v) : tm_rc i xs as (h ++ t) = tm_rc i xs as h := by
  unfold tm_rc
  split
  · split
    · next a _ _ _ _ _ =>
      have ha : a < h.length := hs (.inr (.inr (some a))) (by simp)
      rw [List.getElem?_append_left ha]
    · rfl
  · rfl
  · rfl
  · rfl
theorem tm_frame {tb : Nat → Nat → Option tm_I} {mi : Nat → Nat × Nat × Nat × Nat} {cl : List vw_C} {ty : Nat → Nat → FieldType} (t : tm_H) : ∀ (n k pc : Nat) (lo : tm_L) (st : List tm_V) (h : tm_H) (bs : Nat) (v : Option tm_V) (H' : tm_H), tm_run tb mi (tm_df cl ty) n k pc lo st (h ++ t) 0 bs = some (v, H') → (∀ q ∈ lo, tm_ok h.length q.2) → (∀ v ∈ st, tm_ok h.length v) → tm_okH h → ∃ h', tm_run tb mi (tm_df cl ty) n k pc lo st h 0 bs = some (v, h') ∧ H' = h' ++ t ∧ h'.length = h.length := by
  intro n
  induction n with
  | zero => intro k pc lo st h bs v h' hr; simp [tm_run] at hr
  | succ n ih =>
    intro k pc lo st h bs v h' hr hl hs ho
    unfold tm_run at hr ⊢
    split at hr
    · cases hr
    · next i xs c hi =>
      split at hr
      · next hk =>
        split at hr
        · next st' e =>
          try simp only [hi, hk, e]
          exact ih _ _ _ _ _ _ _ _ hr hl (tm_pu_ok e hs) ho
        · cases hr
      · next hk =>
        split at hr
        · next lo' st' e =>
          obtain ⟨a1, a2⟩ := tm_lo_ok e hl hs
          try simp only [hi, hk, e]
          exact ih _ _ _ _ _ _ _ _ hr a1 a2 ho
        · cases hr
      · next hk =>
        split at hr
        · next pc' st' e =>
          try simp only [hi, hk, e]
          exact ih _ _ _ _ _ _ _ _ hr hl (tm_br_ok e hs) ho
        · cases hr
      · next hk =>
        split at hr
        · next st' h1 e =>
          obtain ⟨h2, e2, rfl⟩ := tm_hp_fr e hs
          obtain ⟨a1, a2, a3⟩ := tm_hp_ok e2 hs ho
          simp only [hi, hk, e2]
          have := ih _ _ _ _ _ _ _ _ hr (by rw [a1]; exact hl) (by rw [a1]; exact a3) a2
          rw [a1] at this
          exact this
        · cases hr
      · split at hr
        · split at hr
          · next hb => exact absurd hb.1 (by decide)
          · cases hr
        · cases hr
      · next hk =>
        split at hr
        · next st' e =>
          try simp only [hi, hk, e]
          exact ih _ _ _ _ _ _ _ _ hr hl (tm_kc_ok e hs) ho
        · cases hr
      · next hk =>
        split at hr
        · next w e => cases hr; exact ⟨h, rfl, rfl, rfl⟩
        · cases hr
      · next hk =>
        split at hr
        · next y na _ =>
          split at hr
          · next hc =>
            obtain ⟨c1, c2, c3, c4, c5, c6⟩ := hc
            have hargs : ∀ w ∈ (st.take na).reverse, tm_ok h.length w := fun w hw => hs w (List.mem_of_mem_take (List.mem_reverse.mp hw))
            rw [tm_rc_fr hargs] at c6
            have c30 : (mi y).2.2.1 = 0 := Nat.le_zero.mp c3
            split at hr
            · next v1 h1 e1 =>
              rw [c30] at e1 hr
              obtain ⟨h2, b1, rfl, b3⟩ := ih _ _ _ _ _ _ _ _ e1 (tm_args_ok _ _ hargs) (fun w hw => by cases hw) ho
              obtain ⟨-, d2, d3⟩ := tm_run_ok _ _ _ _ _ _ _ _ _ _ b1 (tm_args_ok _ _ hargs) (fun w hw => by cases hw) ho
              try simp only [hi, hk]
              rw [if_pos ⟨c1, c2, c3, c4, c5, c6⟩, c30, b1]
              have := ih _ _ _ _ _ _ _ _ hr (fun x hx => by rw [b3]; exact hl x hx) (fun x hx => by
                rw [b3]
                rcases List.mem_append.mp hx with h2 | h2
                · have := d3 x h2; rw [b3] at this; exact this
                · exact hs x (List.mem_of_mem_drop h2)) d2
              rw [b3] at this
              exact this
            · cases hr
          · cases hr
        · cases hr
      · next hk =>
        split at hr
        · next a r =>
          split at hr
          · next hsum =>
            try simp only [hi, hk]
            rw [if_pos hsum]
            exact ih _ _ _ _ _ _ _ _ hr hl (fun v hv => hs v (List.mem_cons_of_mem _ hv)) ho
          · cases hr
        · cases hr
      · cases hr
