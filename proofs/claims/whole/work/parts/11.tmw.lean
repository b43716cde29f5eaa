/-! From the small machine to the model: values and cells -/
def tm_cv (ad : Nat → Nat) (v : tm_V) : Value := match v with
  | .inl x => .int (Int32.ofInt x)
  | .inr (.inl x) => .long (Int64.ofInt x)
  | .inr (.inr none) => .null
  | .inr (.inr (some k)) => .ref (ad k)
def tm_iI (x : Int) : Prop := -2147483648 ≤ x ∧ x < 2147483648
def tm_iL (x : Int) : Prop := -9223372036854775808 ≤ x ∧ x < 9223372036854775808
def tm_ok (n : Nat) (v : tm_V) : Prop := match v with
  | .inl x => tm_iI x
  | .inr (.inl x) => tm_iL x
  | .inr (.inr none) => True
  | .inr (.inr (some k)) => k < n
def tm_okC (n : Nat) (q : tm_C) : Prop := match q with
  | .inl (t, _, f) => ∀ j, if t = 1 then tm_iL (f j) else tm_iI (f j)
  | .inr (_, fs) => ∀ v ∈ fs, tm_ok n v
def tm_okH (h : tm_H) : Prop := ∀ q ∈ h, tm_okC h.length q
def tm_vA (n t : Nat) (f : Nat → Int) : vp_A := if t = 1 then (n, .inr (.inl (fun j => Int64.ofInt (f j)))) else (n, .inl (fun j => Int32.ofInt (f j)))
def tm_cE (tA : Nat → ClassId) (ad : Nat → Nat) (q : tm_C) : va_E := match q with
  | .inl (t, n, f) => .inl (tA t, tm_vA n t f)
  | .inr (ci, fs) => .inr (ci, fs.map (tm_cv ad))
def tm_cW (tA : Nat → ClassId) (ad : Nat → Nat) (h : tm_H) : va_W := h.mapIdx (fun k q => (ad k, tm_cE tA ad q))
theorem tm_cW_get (tA : Nat → ClassId) (ad : Nat → Nat) (h : tm_H) (k : Nat) : (tm_cW tA ad h)[k]? = (h[k]?).map (fun q => (ad k, tm_cE tA ad q)) := by
  simp [tm_cW]
theorem tm_cW_at {tA : Nat → ClassId} {ad : Nat → Nat} {h : tm_H} {k : Nat} {q : tm_C} (e : h[k]? = some q) : (tm_cW tA ad h)[k]? = some (ad k, tm_cE tA ad q) := by
  rw [tm_cW_get, e]; rfl
theorem tm_cW_set {tA : Nat → ClassId} {ad : Nat → Nat} {h : tm_H} {k : Nat} {q : tm_C} : tm_cW tA ad (h.set k q) = (tm_cW tA ad h).set k (ad k, tm_cE tA ad q) := by
  apply List.ext_getElem?
  intro j
  rw [tm_cW_get, List.getElem?_set, List.getElem?_set, tm_cW_get]
  have hl : (tm_cW tA ad h).length = h.length := by simp [tm_cW]
  rw [hl]
  by_cases hj : k = j
  · subst hj
    by_cases hk : k < h.length <;> simp [hk]
  · simp [hj]
theorem tm_cW_length (tA : Nat → ClassId) (ad : Nat → Nat) (h : tm_H) : (tm_cW tA ad h).length = h.length := by simp [tm_cW]
theorem tm_cvi (ad : Nat → Nat) (z : Int32) : tm_cv ad (.inl z.toInt) = .int z := by simp [tm_cv]
theorem tm_cvl (ad : Nat → Nat) (z : Int64) : tm_cv ad (.inr (.inl z.toInt)) = .long z := by simp [tm_cv]
theorem tm_cat_cv (ad : Nat → Nat) (v : tm_V) : (tm_cv ad v).category = tm_cat v := by
  obtain x | x | _ | x := v <;> rfl
theorem tm_iI_of (z : Int32) : tm_iI z.toInt := ⟨by have := Int32.le_toInt z; omega, by have := Int32.toInt_lt z; omega⟩
theorem tm_iL_of (z : Int64) : tm_iL z.toInt := ⟨by have := Int64.le_toInt z; omega, by have := Int64.toInt_lt z; omega⟩
theorem tm_toI {x : Int} (h : tm_iI x) : (Int32.ofInt x).toInt = x := Int32.toInt_ofInt_of_le (by have := h.1; omega) (by have := h.2; omega)
theorem tm_toL {x : Int} (h : tm_iL x) : (Int64.ofInt x).toInt = x := Int64.toInt_ofInt_of_le (by have := h.1; omega) (by have := h.2; omega)
theorem tm_eqI {x y : Int} (hx : tm_iI x) (hy : tm_iI y) : Int32.ofInt x = Int32.ofInt y ↔ x = y := by
  constructor
  · intro h
    have h2 := congrArg Int32.toInt h
    rwa [tm_toI hx, tm_toI hy] at h2
  · intro h; rw [h]
theorem tm_ltI {x y : Int} (hx : tm_iI x) (hy : tm_iI y) : Int32.ofInt x < Int32.ofInt y ↔ x < y := by
  rw [Int32.lt_iff_toInt_lt, tm_toI hx, tm_toI hy]
theorem tm_leI {x y : Int} (hx : tm_iI x) (hy : tm_iI y) : Int32.ofInt x ≤ Int32.ofInt y ↔ x ≤ y := by
  rw [Int32.le_iff_toInt_le, tm_toI hx, tm_toI hy]
theorem tm_bi_inv {f : Int → Int → Option tm_V} {st st' : List tm_V} (h : tm_bi f st = some st') : ∃ x y r v, st = .inl y :: .inl x :: r ∧ f x y = some v ∧ st' = v :: r := by
  unfold tm_bi at h
  split at h
  · next y x r =>
    cases hf : f x y with
    | none => rw [hf] at h; cases h
    | some v => rw [hf] at h; cases h; exact ⟨x, y, r, v, rfl, hf, rfl⟩
  · cases h
theorem tm_bl_inv {f : Int → Int → Option tm_V} {st st' : List tm_V} (h : tm_bl f st = some st') : ∃ x y r v, st = .inr (.inl y) :: .inr (.inl x) :: r ∧ f x y = some v ∧ st' = v :: r := by
  unfold tm_bl at h
  split at h
  · next y x r =>
    cases hf : f x y with
    | none => rw [hf] at h; cases h
    | some v => rw [hf] at h; cases h; exact ⟨x, y, r, v, rfl, hf, rfl⟩
  · cases h
theorem tm_bs_inv {f : Int → Int → Option tm_V} {st st' : List tm_V} (h : tm_bs f st = some st') : ∃ x y r v, st = .inl y :: .inr (.inl x) :: r ∧ f x y = some v ∧ st' = v :: r := by
  unfold tm_bs at h
  split at h
  · next y x r =>
    cases hf : f x y with
    | none => rw [hf] at h; cases h
    | some v => rw [hf] at h; cases h; exact ⟨x, y, r, v, rfl, hf, rfl⟩
  · cases h
theorem tm_ii_inv {f : Int32 → Int32 → Int32} {st st' : List tm_V} (h : tm_ii f st = some st') : ∃ x y r, st = .inl y :: .inl x :: r ∧ st' = .inl (f (Int32.ofInt x) (Int32.ofInt y)).toInt :: r := by
  obtain ⟨x, y, r, v, h1, h2, h3⟩ := tm_bi_inv h
  cases h2
  exact ⟨x, y, r, h1, h3⟩
theorem tm_ll_inv {f : Int64 → Int64 → Int64} {st st' : List tm_V} (h : tm_ll f st = some st') : ∃ x y r, st = .inr (.inl y) :: .inr (.inl x) :: r ∧ st' = .inr (.inl (f (Int64.ofInt x) (Int64.ofInt y)).toInt) :: r := by
  obtain ⟨x, y, r, v, h1, h2, h3⟩ := tm_bl_inv h
  cases h2
  exact ⟨x, y, r, h1, h3⟩
/-- what the stack instructions leave is in range -/
theorem tm_pu_ok {n : Nat} {i : tm_J} {st st' : List tm_V} (h : tm_pu i st = some st') (ho : ∀ v ∈ st, tm_ok n v) : ∀ v ∈ st', tm_ok n v := by
  have hI : ∀ {f : Int32 → Int32 → Int32}, tm_ii f st = some st' → ∀ v ∈ st', tm_ok n v := by
    intro f h
    obtain ⟨x, y, r, rfl, rfl⟩ := tm_ii_inv h
    intro v hv
    rcases List.mem_cons.mp hv with rfl | hv
    · exact tm_iI_of _
    · exact ho v (by simp [hv])
  have hL : ∀ {f : Int64 → Int64 → Int64}, tm_ll f st = some st' → ∀ v ∈ st', tm_ok n v := by
    intro f h
    obtain ⟨x, y, r, rfl, rfl⟩ := tm_ll_inv h
    intro v hv
    rcases List.mem_cons.mp hv with rfl | hv
    · exact tm_iL_of _
    · exact ho v (by simp [hv])
  have hc : ∀ {w : tm_V} {r : List tm_V}, tm_ok n w → (∀ v ∈ r, v ∈ st) → ∀ v ∈ w :: r, tm_ok n v := by
    intro w r hw hr v hv
    rcases List.mem_cons.mp hv with rfl | hv
    · exact hw
    · exact ho v (hr v hv)
  unfold tm_pu at h
  split at h
  · split at h
    · next hn => cases h; exact hc ⟨by omega, by omega⟩ (fun v hv => hv)
    · cases h
  · split at h
    · next hn => cases h; exact hc ⟨by omega, by omega⟩ (fun v hv => hv)
    · cases h
  · split at h
    · next hn => cases h; exact hc ⟨by omega, by omega⟩ (fun v hv => hv)
    · cases h
  · next k => cases h; have := k.2; exact hc ⟨by omega, by omega⟩ (fun v hv => hv)
  · exact hI h
  · exact hI h
  · exact hI h
  · exact hI h
  · exact hI h
  · exact hI h
  · exact hI h
  · exact hI h
  · obtain ⟨x, y, r, v, rfl, h2, rfl⟩ := tm_bi_inv h
    split at h2
    · cases h2
    · cases h2; exact hc (tm_iI_of _) (fun v hv => by simp [hv])
  · obtain ⟨x, y, r, v, rfl, h2, rfl⟩ := tm_bi_inv h
    split at h2
    · cases h2
    · cases h2; exact hc (tm_iI_of _) (fun v hv => by simp [hv])
  · exact hL h
  · exact hL h
  · exact hL h
  · exact hL h
  · exact hL h
  · exact hL h
  · obtain ⟨x, y, r, v, rfl, h2, rfl⟩ := tm_bl_inv h
    split at h2
    · cases h2
    · cases h2; exact hc (tm_iL_of _) (fun v hv => by simp [hv])
  · obtain ⟨x, y, r, v, rfl, h2, rfl⟩ := tm_bl_inv h
    split at h2
    · cases h2
    · cases h2; exact hc (tm_iL_of _) (fun v hv => by simp [hv])
  · obtain ⟨x, y, r, v, rfl, h2, rfl⟩ := tm_bs_inv h
    cases h2; exact hc (tm_iL_of _) (fun v hv => by simp [hv])
  · obtain ⟨x, y, r, v, rfl, h2, rfl⟩ := tm_bs_inv h
    cases h2; exact hc (tm_iL_of _) (fun v hv => by simp [hv])
  · obtain ⟨x, y, r, v, rfl, h2, rfl⟩ := tm_bs_inv h
    cases h2; exact hc (tm_iL_of _) (fun v hv => by simp [hv])
  · obtain ⟨x, y, r, v, rfl, h2, rfl⟩ := tm_bl_inv h
    cases h2
    refine hc ?_ (fun v hv => by simp [hv])
    show tm_iI _
    unfold tm_iI
    split
    · omega
    · split <;> omega
  · split at h
    · next x r =>
      cases h
      have hx : tm_iI x := ho (.inl x) (by simp)
      exact hc (w := .inr (.inl x)) ⟨by have := hx.1; omega, by have := hx.2; omega⟩ (fun v hv => by simp [hv])
    · cases h
  · split at h
    · cases h; exact hc (tm_iI_of _) (fun v hv => by simp [hv])
    · cases h
  · split at h
    · split at h
      · cases h; intro v hv; exact ho v (by simp only [List.mem_cons] at hv ⊢; grind)
      · cases h
    · cases h
  · split at h
    · split at h
      · cases h; intro v hv; exact ho v (by simp [hv])
      · cases h
    · cases h
  · split at h
    · split at h
      · cases h; intro v hv; exact ho v (by simp only [List.mem_cons] at hv ⊢; grind)
      · cases h
    · cases h
  · split at h
    · split at h
      · cases h; intro v hv; exact ho v (by simp only [List.mem_cons] at hv ⊢; grind)
      · cases h
    · cases h
  · split at h
    · split at h
      · cases h; intro v hv; exact ho v (by simp only [List.mem_cons] at hv ⊢; grind)
      · cases h
    · cases h
  · cases h
