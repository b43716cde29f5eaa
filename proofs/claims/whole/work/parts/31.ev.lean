/-! Rules for runs of the small machine over the two objects' memory -/
/-- more steps do no harm -/
theorem tm_mono {tb : Nat → Nat → Option tm_I} {mi : Nat → Nat × Nat × Nat × Nat} {df : Nat → List tm_V} : ∀ (n k pc : Nat) (lo : tm_L) (st : List tm_V) (h : tm_H) (bc bs : Nat) (r : Option tm_V × tm_H), tm_run tb mi df n k pc lo st h bc bs = some r → tm_run tb mi df (n + 1) k pc lo st h bc bs = some r := by
  intro n
  induction n with
  | zero => intro k pc lo st h bc bs r hr; simp [tm_run] at hr
  | succ n ih =>
    intro k pc lo st h bc bs r hr
    unfold tm_run at hr ⊢
    split at hr
    · cases hr
    · next i xs c hi =>
      try simp only [hi]
      split at hr
      · next hk =>
        try simp only [hk]
        split at hr
        · next e => (try simp only [e]); exact ih _ _ _ _ _ _ _ _ hr
        · cases hr
      · next hk =>
        try simp only [hk]
        split at hr
        · next e => (try simp only [e]); exact ih _ _ _ _ _ _ _ _ hr
        · cases hr
      · next hk =>
        try simp only [hk]
        split at hr
        · next e => (try simp only [e]); exact ih _ _ _ _ _ _ _ _ hr
        · cases hr
      · next hk =>
        try simp only [hk]
        split at hr
        · next e => (try simp only [e]); exact ih _ _ _ _ _ _ _ _ hr
        · cases hr
      · next hk =>
        try simp only [hk]
        split at hr
        · next e =>
          split at hr
          · next hc => (try simp only [e]); (try simp only [if_pos hc]); exact ih _ _ _ _ _ _ _ _ hr
          · cases hr
        · cases hr
      · next hk =>
        try simp only [hk]
        split at hr
        · next e => (try simp only [e]); exact ih _ _ _ _ _ _ _ _ hr
        · cases hr
      · next hk =>
        try simp only [hk]
        exact hr
      · next hk =>
        try simp only [hk]
        split at hr
        · split at hr
          · next hc =>
            try simp only [if_pos hc]
            split at hr
            · next e =>
              have e2 := ih _ _ _ _ _ _ _ _ e
              simp only [e2]; exact ih _ _ _ _ _ _ _ _ hr
            · cases hr
          · cases hr
        · cases hr
      · next hk =>
        try simp only [hk]
        split at hr
        · split at hr
          · next hc => (try simp only [if_pos hc]); exact ih _ _ _ _ _ _ _ _ hr
          · cases hr
        · cases hr
      · cases hr
theorem tm_mono' {tb : Nat → Nat → Option tm_I} {mi : Nat → Nat × Nat × Nat × Nat} {df : Nat → List tm_V} {n n' k pc : Nat} {lo : tm_L} {st : List tm_V} {h : tm_H} {bc bs : Nat} {r : Option tm_V × tm_H} (hn : n ≤ n') (hr : tm_run tb mi df n k pc lo st h bc bs = some r) : tm_run tb mi df n' k pc lo st h bc bs = some r := by
  obtain ⟨d, rfl⟩ := Nat.exists_eq_add_of_le hn
  induction d with
  | zero => exact hr
  | succ d ih => exact tm_mono _ _ _ _ _ _ _ _ _ (ih (by omega))
abbrev ev_r (n k pc : Nat) (lo : tm_L) (st : List tm_V) (h : tm_H) : Option (Option tm_V × tm_H) := tm_run pg_tb (tm_mi pg) (tm_df pg_cl pg_ty) n k pc lo st h 0 0
def ev (k pc : Nat) (lo : tm_L) (st : List tm_V) (M : ev_M) (Q : Option tm_V → ev_M → Prop) : Prop := ∃ (n : Nat) (v : Option tm_V) (M' : ev_M), ev_r n k pc lo st (hp M) = some (v, hp M') ∧ Q v M'
section EV
variable {k pc pc' : Nat} {lo lo' : tm_L} {st st' r : List tm_V} {M M' : ev_M} {Q : Option tm_V → ev_M → Prop} {i : tm_J} {xs : List Nat} {c : Int}
theorem ev.post {Q' : Option tm_V → ev_M → Prop} (h : ev k pc lo st M Q) (hq : ∀ v M', Q v M' → Q' v M') : ev k pc lo st M Q' := by
  obtain ⟨n, v, M', h1, h2⟩ := h
  exact ⟨n, v, M', h1, hq v M' h2⟩
theorem ev_pu (ht : pg_tb k pc = some (i, xs, c)) (hk : tm_kd i xs = 0) (hs : tm_pu i st = some st') (hp' : pc + tm_len i = pc') (e : ev k pc' lo st' M Q) : ev k pc lo st M Q := by
  obtain ⟨n, v, M', h1, h2⟩ := e
  subst hp'
  refine ⟨n + 1, v, M', ?_, h2⟩
  unfold ev_r tm_run
  simp only [ht, hk, hs]; exact h1
theorem ev_lo (ht : pg_tb k pc = some (i, xs, c)) (hk : tm_kd i xs = 1) (hs : tm_lo (tm_mi pg k).1 i lo st = some (lo', st')) (hp' : pc + tm_len i = pc') (e : ev k pc' lo' st' M Q) : ev k pc lo st M Q := by
  obtain ⟨n, v, M', h1, h2⟩ := e
  subst hp'
  refine ⟨n + 1, v, M', ?_, h2⟩
  unfold ev_r tm_run
  simp only [ht, hk, hs]; exact h1
theorem ev_br (ht : pg_tb k pc = some (i, xs, c)) (hk : tm_kd i xs = 2) (hs : tm_br i pc st = some (pc', st')) (e : ev k pc' lo st' M Q) : ev k pc lo st M Q := by
  obtain ⟨n, v, M', h1, h2⟩ := e
  refine ⟨n + 1, v, M', ?_, h2⟩
  unfold ev_r tm_run
  simp only [ht, hk, hs]; exact h1
theorem ev_hp (ht : pg_tb k pc = some (i, xs, c)) (hk : tm_kd i xs = 3) {h' : tm_H} (hs : tm_hp i xs st (hp M) = some (st', h')) (hh : h' = hp M') (hp' : pc + tm_len i = pc') (e : ev k pc' lo st' M' Q) : ev k pc lo st M Q := by
  obtain ⟨n, v, M2, h1, h2⟩ := e
  subst hp'
  subst hh
  refine ⟨n + 1, v, M2, ?_, h2⟩
  unfold ev_r tm_run
  simp only [ht, hk, hs]; exact h1
theorem ev_kc (ht : pg_tb k pc = some (i, xs, c)) (hk : tm_kd i xs = 5) (hs : tm_kc i xs c st = some st') (hp' : pc + tm_len i = pc') (e : ev k pc' lo st' M Q) : ev k pc lo st M Q := by
  obtain ⟨n, v, M', h1, h2⟩ := e
  subst hp'
  refine ⟨n + 1, v, M', ?_, h2⟩
  unfold ev_r tm_run
  simp only [ht, hk, hs]; exact h1
theorem ev_rt {v : Option tm_V} (ht : pg_tb k pc = some (i, xs, c)) (hk : tm_kd i xs = 6) (hs : tm_rt i (tm_mi pg k).2.1 st = some v) (e : Q v M) : ev k pc lo st M Q := by
  refine ⟨1, v, M, ?_, e⟩
  unfold ev_r tm_run
  simp only [ht, hk, hs]
theorem ev_call {y na : Nat} {as : List tm_V} (ht : pg_tb k pc = some (i, y :: na :: xs, c)) (hk : tm_kd i (y :: na :: xs) = 7) (hna : na ≤ st.length) (hsum : tm_sum (st.drop na) ≤ 8) (hmi : (tm_mi pg y).2.2.1 = 0 ∧ (tm_mi pg y).2.2.2 = 0) (hsa : tm_sum (st.take na) ≤ (tm_mi pg y).1) (has : (st.take na).reverse = as) (hrc : tm_rc i (y :: na :: xs) as (hp M) = true) (hr : st.drop na = r) (hp' : pc + 3 = pc')
    (e : ev y 0 (tm_args 0 as) [] M (fun v M1 => ev k pc' lo (v.toList ++ r) M1 Q)) : ev k pc lo st M Q := by
  obtain ⟨n, v, M1, h1, n2, v2, M2, h2, hq⟩ := e
  subst hp'
  subst has
  subst hr
  refine ⟨n + n2 + 1, v2, M2, ?_, hq⟩
  unfold ev_r tm_run
  simp only [ht, hk]
  rw [if_pos ⟨hna, hsum, by rw [hmi.1]; exact Nat.le_refl _, by rw [hmi.2]; exact Nat.le_refl _, hsa, hrc⟩]
  rw [hmi.1, hmi.2]
  have e1 := tm_mono' (Nat.le_add_right n n2) h1
  have e2 := tm_mono' (Nat.le_add_left n2 n) h2
  rw [e1]
  exact e2
/-- locals that nobody reads any more may go -/
def tm_nd (lo : tm_L) : Bool := va_nd (lo.map (fun q => q.1))
theorem ev_ifT {cd : Jvm.ClassFile.Cond} {off : Int} {x : Int} (ht : pg_tb k pc = some (.ifCond cd off, xs, c)) (ho : 0 ≤ (pc : Int) + off) (hg : tm_go pc off = pc') {pc2 : Nat} (h2 : pc + 3 = pc2) (eT : tm_cd cd x 0 = true → ev k pc' lo r M Q) (eF : tm_cd cd x 0 = false → ev k pc2 lo r M Q) : ev k pc lo (.inl x :: r) M Q := by
  cases hc : tm_cd cd x 0 with
  | true => exact ev_br ht rfl (by simp only [tm_br]; rw [if_pos ho, hc, hg]; rfl) (eT hc)
  | false => exact ev_br ht rfl (by simp only [tm_br]; rw [if_pos ho, hc]; rfl) (h2 ▸ eF hc)
theorem ev_icmp {cd : Jvm.ClassFile.Cond} {off : Int} {x y : Int} (ht : pg_tb k pc = some (.if_icmp cd off, xs, c)) (ho : 0 ≤ (pc : Int) + off) (hg : tm_go pc off = pc') {pc2 : Nat} (h2 : pc + 3 = pc2) (eT : tm_cd cd x y = true → ev k pc' lo r M Q) (eF : tm_cd cd x y = false → ev k pc2 lo r M Q) : ev k pc lo (.inl y :: .inl x :: r) M Q := by
  cases hc : tm_cd cd x y with
  | true => exact ev_br ht rfl (by simp only [tm_br]; rw [if_pos ho, hc, hg]; rfl) (eT hc)
  | false => exact ev_br ht rfl (by simp only [tm_br]; rw [if_pos ho, hc]; rfl) (h2 ▸ eF hc)
end EV
