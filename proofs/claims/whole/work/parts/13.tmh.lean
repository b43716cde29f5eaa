/-! From the small machine to the model: the program's data, fields, arrays, new cells -/
abbrev tm_M : Type := MethodName × ByteArray × Nat × Option FieldType × String × Room
def tm_tyc (t : FieldType) : Nat := match t with
  | .int => 0
  | .long => 1
  | .boolean => 2
  | .object _ => 3
  | .array _ => 3
  | _ => 9
def tm_aty (t : Nat) : FieldType := if t = 0 then .int else if t = 1 then .long else .boolean
def tm_dv (t : FieldType) : tm_V := match t with
  | .long => .inr (.inl 0)
  | .object _ => .inr (.inr none)
  | .array _ => .inr (.inr none)
  | _ => .inl 0
def tm_df (cl : List vw_C) (ty : Nat → Nat → FieldType) (ci : Nat) : List tm_V := match cl[ci]? with
  | some q => (List.range q.2.2).map (fun k => tm_dv (ty ci k))
  | none => []
def tm_mi (pg : Nat → tm_M) (k : Nat) : Nat × Nat × Nat × Nat := ((pg k).2.2.1, (match (pg k).2.2.2.1 with
  | none => 4
  | some t => tm_tyc t), (pg k).2.2.2.2.2.cells, (pg k).2.2.2.2.2.slots)
def tm_cd1 (pg : Nat → tm_M) (k : Nat) : Cond := .code (pg k).1 (pg k).2.1 (pg k).2.2.1 (pg k).2.2.2.1
def tm_ws (pg : Nat → tm_M) (nM : Nat) (WB : List Cond) (k : Nat) : List Cond := tm_cd1 pg k :: ((List.range nM).map (tm_cd1 pg) ++ WB)
theorem tm_ws_B {pg : Nat → tm_M} {nM : Nat} {WB : List Cond} {k : Nat} {w : Cond} (h : w ∈ WB) : w ∈ tm_ws pg nM WB k := List.mem_cons_of_mem _ (List.mem_append_right _ h)
theorem tm_goodIn {pg : Nat → tm_M} {nM : Nat} {WB : List Cond} {k y : Nat} (hB : WB.all goodWord = true) (hy : y < nM) : GoodIn (tm_ws pg nM WB k) (tm_ws pg nM WB y) := by
  intro w hw
  rcases List.mem_cons.mp hw with rfl | hw
  · exact ⟨List.mem_cons_of_mem _ (List.mem_append_left _ (List.mem_map.mpr ⟨y, List.mem_range.mpr hy, rfl⟩)), Or.inl rfl⟩
  · refine ⟨List.mem_cons_of_mem _ hw, ?_⟩
    rcases List.mem_append.mp hw with h | h
    · obtain ⟨j, -, rfl⟩ := List.mem_map.mp h
      exact Or.inl rfl
    · exact good_of_word (List.all_eq_true.mp hB w h)
theorem tm_fit_ok {t : FieldType} {v : tm_V} {ad : Nat → Nat} (h : tm_fit (tm_tyc t) v = true) : narrow t (tm_cv ad v) = tm_cv ad v ∧ fits t (tm_cv ad v) = true := by
  obtain x | x | _ | x := v
  · cases t <;> simp [tm_tyc, tm_fit] at h <;> first | exact ⟨rfl, rfl⟩ | (rcases h with rfl | rfl <;> exact ⟨congrArg Value.int (by decide +kernel), by rfl⟩)
  · cases t <;> simp [tm_tyc, tm_fit] at h <;> exact ⟨rfl, rfl⟩
  · cases t <;> simp [tm_fit] at h
  · cases t <;> simp [tm_tyc, tm_fit] at h <;> exact ⟨rfl, rfl⟩
theorem tm_dv_ok {t : FieldType} {ad : Nat → Nat} (h : tm_tyc t < 4) : defaultValue t = tm_cv ad (tm_dv t) := by
  cases t <;> simp [tm_tyc] at h <;> rfl
theorem tm_cv_ext {n : Nat} {ad ad' : Nat → Nat} (h : ∀ j, j < n → ad' j = ad j) {v : tm_V} (hv : tm_ok n v) : tm_cv ad' v = tm_cv ad v := by
  obtain x | x | _ | x := v
  · rfl
  · rfl
  · rfl
  · exact congrArg Value.ref (h x hv)
theorem tm_cvs_ext {n : Nat} {ad ad' : Nat → Nat} (h : ∀ j, j < n → ad' j = ad j) {vs : List tm_V} (hv : ∀ v ∈ vs, tm_ok n v) : vs.map (tm_cv ad') = vs.map (tm_cv ad) :=
  List.map_congr_left (fun v hm => tm_cv_ext h (hv v hm))
theorem tm_cL_ext {n : Nat} {ad ad' : Nat → Nat} (h : ∀ j, j < n → ad' j = ad j) {lo : tm_L} (hv : ∀ q ∈ lo, tm_ok n q.2) : tm_cL ad' lo = tm_cL ad lo :=
  List.map_congr_left (fun q hm => by rw [tm_cv_ext h (hv q hm)])
theorem tm_cE_ext {n : Nat} {tA : Nat → ClassId} {ad ad' : Nat → Nat} (h : ∀ j, j < n → ad' j = ad j) {q : tm_C} (hv : tm_okC n q) : tm_cE tA ad' q = tm_cE tA ad q := by
  obtain ⟨t, k, f⟩ | ⟨ci, fs⟩ := q
  · rfl
  · show (Sum.inr (ci, fs.map (tm_cv ad')) : va_E) = _
    rw [tm_cvs_ext h hv]; rfl
theorem tm_cW_ext {tA : Nat → ClassId} {ad ad' : Nat → Nat} {h : tm_H} (hh : ∀ j, j < h.length → ad' j = ad j) (ho : tm_okH h) : tm_cW tA ad' h = tm_cW tA ad h := by
  apply List.ext_getElem?
  intro j
  rw [tm_cW_get, tm_cW_get]
  cases e : h[j]? with
  | none => rfl
  | some q =>
    have hj : j < h.length := (List.getElem?_eq_some_iff.mp e).1
    show some (ad' j, tm_cE tA ad' q) = some (ad j, tm_cE tA ad q)
    rw [hh j hj, tm_cE_ext hh (ho q (List.mem_of_getElem? e))]
theorem tm_cW_push {tA : Nat → ClassId} {ad : Nat → Nat} {h : tm_H} {q : tm_C} {a : Nat} (ho : tm_okH h) (hq : tm_okC h.length q) : tm_cW tA (fun j => if j = h.length then a else ad j) (h ++ [q]) = tm_cW tA ad h ++ [(a, tm_cE tA ad q)] := by
  have hx : ∀ j, j < h.length → (fun j => if j = h.length then a else ad j) j = ad j := fun j hj => by simp [Nat.ne_of_lt hj]
  have e1 := tm_cW_ext (tA := tA) hx ho
  have e2 := tm_cE_ext (tA := tA) hx hq
  unfold tm_cW at e1 ⊢
  rw [List.mapIdx_append, e1]
  simp [e2]
theorem tm_ok_mono {n n' : Nat} (h : n ≤ n') {v : tm_V} (hv : tm_ok n v) : tm_ok n' v := by
  obtain x | x | _ | x := v
  · exact hv
  · exact hv
  · trivial
  · exact Nat.lt_of_lt_of_le hv h
theorem tm_okC_mono {n n' : Nat} (h : n ≤ n') {q : tm_C} (hq : tm_okC n q) : tm_okC n' q := by
  obtain ⟨t, k, f⟩ | ⟨ci, fs⟩ := q
  · exact hq
  · exact fun v hv => tm_ok_mono h (hq v hv)
theorem tm_okH_set {h : tm_H} {a : Nat} {q : tm_C} (ho : tm_okH h) (hq : tm_okC h.length q) : tm_okH (h.set a q) := by
  intro x hx
  rw [List.length_set]
  rcases List.mem_or_eq_of_mem_set hx with h1 | rfl
  · exact ho x h1
  · exact hq
theorem tm_okH_push {h : tm_H} {q : tm_C} (ho : tm_okH h) (hq : tm_okC h.length q) : tm_okH (h ++ [q]) := by
  intro x hx
  have hl : h.length ≤ (h ++ [q]).length := by simp
  rcases List.mem_append.mp hx with h1 | h1
  · exact tm_okC_mono hl (ho x h1)
  · rw [List.mem_singleton.mp h1]; exact tm_okC_mono hl hq
theorem tm_ar_inv {h : tm_H} {a t n : Nat} {f : Nat → Int} (e : tm_ar h a t = some (n, f)) : h[a]? = some (.inl (t, n, f)) := by
  unfold tm_ar at e
  split at e
  · next t' n' f' e' =>
    split at e
    · next ht => cases e; rw [← ht]; exact e'
    · cases e
  · cases e
theorem tm_ald_inv {t : Nat} {w : Int → tm_V} {st st' : List tm_V} {h h' : tm_H} (e : tm_ald t w st h = some (st', h')) : ∃ i a r n f, st = .inl i :: .inr (.inr (some a)) :: r ∧ h[a]? = some (.inl (t, n, f)) ∧ (0 ≤ i ∧ i < (n : Int)) ∧ st' = w (f i.toNat) :: r ∧ h' = h := by
  unfold tm_ald at e
  split at e
  · next i a r =>
    split at e
    · next n f ea =>
      split at e
      · next hi => cases e; exact ⟨i, a, r, n, f, rfl, tm_ar_inv ea, hi, rfl, rfl⟩
      · cases e
    · cases e
  · cases e
theorem tm_okC_up {n t k : Nat} {f : Nat → Int} {j : Nat} {x : Int} (ho : tm_okC n (.inl (t, k, f))) (hx : if t = 1 then tm_iL x else tm_iI x) : tm_okC n (.inl (t, k, tm_up f j x)) := by
  intro i
  show if t = 1 then tm_iL (tm_up f j x i) else tm_iI (tm_up f j x i)
  unfold tm_up
  by_cases e : i = j
  · simp only [e, if_true]; exact hx
  · simp only [e, if_false]; exact ho i
theorem tm_hp_ok {i : tm_J} {xs : List Nat} {st st' : List tm_V} {h h' : tm_H} (e : tm_hp i xs st h = some (st', h')) (hs : ∀ v ∈ st, tm_ok h.length v) (ho : tm_okH h) : h'.length = h.length ∧ tm_okH h' ∧ ∀ v ∈ st', tm_ok h.length v := by
  have hc : ∀ {w : tm_V} {r : List tm_V}, tm_ok h.length w → (∀ v ∈ r, v ∈ st) → ∀ v ∈ w :: r, tm_ok h.length v := by
    intro w r hw hr v hv
    rcases List.mem_cons.mp hv with rfl | hv
    · exact hw
    · exact hs v (hr v hv)
  unfold tm_hp at e
  split at e
  · split at e
    · split at e
      · next a r ci sl _ _ cj fs ea =>
        split at e
        · split at e
          · next v ev =>
            cases e
            have := ho _ (List.mem_of_getElem? ea)
            exact ⟨rfl, ho, hc (this v (List.mem_of_getElem? ev)) (fun v hv => by simp [hv])⟩
          · cases e
        · cases e
      · cases e
    · cases e
  · split at e
    · split at e
      · next v a r ci sl ty _ _ cj fs ea =>
        split at e
        · cases e
          have h1 := ho _ (List.mem_of_getElem? ea)
          refine ⟨List.length_set, tm_okH_set ho (fun w hw => ?_), fun w hw => hs w (by simp [hw])⟩
          rcases List.mem_or_eq_of_mem_set hw with h2 | rfl
          · exact h1 w h2
          · exact hs _ (by simp)
        · cases e
      · cases e
    · cases e
  · obtain ⟨j, a, r, n, f, rfl, ea, hj, rfl, rfl⟩ := tm_ald_inv e
    have h1 := ho _ (List.mem_of_getElem? ea) j.toNat
    exact ⟨rfl, ho, hc (w := .inl _) (show tm_iI _ by simpa using h1) (fun v hv => by simp [hv])⟩
  · obtain ⟨j, a, r, n, f, rfl, ea, hj, rfl, rfl⟩ := tm_ald_inv e
    have h1 := ho _ (List.mem_of_getElem? ea) j.toNat
    exact ⟨rfl, ho, hc (w := .inr (.inl _)) (show tm_iL _ by simpa using h1) (fun v hv => by simp [hv])⟩
  · obtain ⟨j, a, r, n, f, rfl, ea, hj, rfl, rfl⟩ := tm_ald_inv e
    have h1 := ho _ (List.mem_of_getElem? ea) j.toNat
    exact ⟨rfl, ho, hc (w := .inl _) (show tm_iI _ by simpa using h1) (fun v hv => by simp [hv])⟩
  · split at e
    · split at e
      · next x j a r _ n f ea =>
        split at e
        · cases e
          exact ⟨List.length_set, tm_okH_set ho (tm_okC_up (ho _ (List.mem_of_getElem? (tm_ar_inv ea))) (by have h9 : tm_iI x := hs (.inl x) (by simp); simpa using h9)), fun w hw => hs w (by simp [hw])⟩
        · cases e
      · cases e
    · cases e
  · split at e
    · split at e
      · next x j a r _ n f ea =>
        split at e
        · cases e
          exact ⟨List.length_set, tm_okH_set ho (tm_okC_up (ho _ (List.mem_of_getElem? (tm_ar_inv ea))) (by have h9 : tm_iL x := hs (.inr (.inl x)) (by simp); simpa using h9)), fun w hw => hs w (by simp [hw])⟩
        · cases e
      · cases e
    · cases e
  · split at e
    · split at e
      · next x j a r _ n f ea =>
        split at e
        · cases e
          exact ⟨List.length_set, tm_okH_set ho (tm_okC_up (ho _ (List.mem_of_getElem? (tm_ar_inv ea))) (by have h9 : tm_iI x := hs (.inl x) (by simp); simpa using h9)), fun w hw => hs w (by simp [hw])⟩
        · cases e
      · cases e
    · cases e
  · split at e
    · split at e
      · split at e
        · next hn => cases e; exact ⟨rfl, ho, hc ⟨by omega, by omega⟩ (fun v hv => by simp [hv])⟩
        · cases e
      · cases e
    · cases e
  · cases e
theorem tm_in {i : Int} {n : Nat} (hk : tm_iI i) (h : 0 ≤ i ∧ i < (n : Int)) : vp_in (Int32.ofInt i) n ∧ (Int32.ofInt i).toNatClampNeg = i.toNat := by
  have e : (Int32.ofInt i).toInt = i := tm_toI hk
  refine ⟨vp_in_iff.mpr ⟨by rw [e]; exact h.1, by rw [e]; exact h.2⟩, ?_⟩
  rw [Int32.toNatClampNeg, e]
theorem tm_upd (f : Nat → Int) (k : Nat) (x : Int) : upd (fun j => Int32.ofInt (f j)) k (Int32.ofInt x) = fun j => Int32.ofInt (tm_up f k x j) := by
  funext j
  unfold upd tm_up
  by_cases e : j = k <;> simp [e]
theorem tm_updL (f : Nat → Int) (k : Nat) (x : Int) : vp_updL (fun j => Int64.ofInt (f j)) k (Int64.ofInt x) = fun j => Int64.ofInt (tm_up f k x j) := by
  funext j
  unfold vp_updL tm_up
  by_cases e : j = k <;> simp [e]
