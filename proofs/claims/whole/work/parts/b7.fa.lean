/-! The class's forest: a node more, and all nodes of a part -/
section FA
variable {G : gT} {n : Int} {w : Int → Int} {T : Int → Int → Int → Bool} {m i j : Int} {M M' : ev_M} {K : Int → Int → Int → Prop} {ρ : Int → Int → Int → Int}
theorem FI.hfl (hG : okG G) (hT : okT n w) (hD : isD G n w T) (h : FI G n T K ρ M) (x p e : Int) (hne : vC M x p e ≠ 0) : 0 ≤ fC' M x p e ∧ fC' M x p e ≤ 500000 := by
  have hn := hT.1
  by_cases h6 : x < 6
  · have hk := h.2.2.1 x p e h6 hne
    have hr := (h.2.2.2.1 _ _ _ hk).rng hG hT hD
    have hρ := (h.2.2.2.2.1 _ _ _ hk).1
    obtain ⟨-, a1, a2⟩ := h.2.2.2.2.2.2 x p e h6 hne
    have := szB_le (l := e - p) (p := ρ x p e - 6 * (e - p)) (by omega) (by omega)
    omega
  · have hr : (0 ≤ x ∧ x < 10) ∧ (0 ≤ p ∧ p ≤ 10) ∧ (0 ≤ e ∧ e ≤ 10) := by
      refine Decidable.byContradiction (fun hno => hne ?_)
      unfold vC
      exact if_neg hno
    have := (h.2.1 x p e (by omega) hr.1.2 hr.2.1.1 hr.2.1.2 hr.2.2.1 hr.2.2.2).2
    omega
theorem FI.ord (hG : okG G) (hT : okT n w) (hD : isD G n w T) (h : FI G n T K ρ M) (x p e : Int) (hne : vC M x p e ≠ 0) : p ≤ e := (((hD _ _ _).mp (h.ont hG hT hD x p e hne)).rng hG hT).2.2.1
theorem FI.add (hG : okG G) (hT : okT n w) (hD : isD G n w T) (h : FI G n T K ρ M) (hu : usd G n T m i j) (hnk : ¬ K m i j) {p : Int} (hp : 0 ≤ p ∧ p ≤ 5) (hk : ∀ x q e : Int, kid G T m i j x q e → K x q e ∧ ρ x q e < 6 * (j - i) + p)
    (h1 : ∀ k : Nat, k ≠ ((m * 11 + i) * 11 + j).toNat → aT_count M' k = aT_count M k ∧ aT_firstLength M' k = aT_firstLength M k) (h2 : aT_count M' ((m * 11 + i) * 11 + j).toNat = ((min (sumN (wt G (vC M) m i j) 18634) 1000000000 : Nat) : Int)) (h3 : sumN (wt G (vC M) m i j) 18634 ≠ 0 → ffR G (vC M) (fC' M) m i j (aT_firstLength M' ((m * 11 + i) * 11 + j).toNat)) :
    ∃ ρ' : Int → Int → Int → Int, (∀ x q e : Int, ¬ (x = m ∧ q = i ∧ e = j) → ρ' x q e = ρ x q e) ∧ ρ' m i j = 6 * (j - i) + p ∧ FI G n T (fun x q e => K x q e ∨ (x = m ∧ q = i ∧ e = j)) ρ' M' := by
  obtain ⟨ρ', r1, r2⟩ : ∃ ρ' : Int → Int → Int → Int, (∀ x q e : Int, ¬ (x = m ∧ q = i ∧ e = j) → ρ' x q e = ρ x q e) ∧ ρ' m i j = 6 * (j - i) + p := ⟨fun x q e => if x = m ∧ q = i ∧ e = j then 6 * (j - i) + p else ρ x q e, fun x q e h => if_neg h, if_pos ⟨rfl, rfl, rfl⟩⟩
  refine ⟨ρ', r1, r2, ?_⟩
  have hn := hT.1
  have hrg := hu.rng hG hT hD
  have hon := h.ont hG hT hD
  have hcv := h.cvE hG hT hD
  obtain ⟨f1, f2, f3, f4, f5, f6, f7⟩ := h
  have same : ∀ x q e : Int, (0 ≤ x ∧ x < 10) → (0 ≤ q ∧ q ≤ 10) → (0 ≤ e ∧ e ≤ 10) → (((x * 11 + q) * 11 + e).toNat = ((m * 11 + i) * 11 + j).toNat ↔ (x = m ∧ q = i ∧ e = j)) := by
    intro x q e a1 a2 a3
    omega
  have ev : ∀ x q e : Int, ¬ (x = m ∧ q = i ∧ e = j) → vC M' x q e = vC M x q e := by
    intro x q e hne
    unfold vC
    by_cases hr : (0 ≤ x ∧ x < 10) ∧ (0 ≤ q ∧ q ≤ 10) ∧ (0 ≤ e ∧ e ≤ 10)
    · rw [if_pos hr, if_pos hr, (h1 _ (fun hh => hne ((same x q e hr.1 hr.2.1 hr.2.2).mp hh))).1]
    · rw [if_neg hr, if_neg hr]
  have ef : ∀ x q e : Int, (0 ≤ x ∧ x < 10) → (0 ≤ q ∧ q ≤ 10) → (0 ≤ e ∧ e ≤ 10) → ¬ (x = m ∧ q = i ∧ e = j) → fC' M' x q e = fC' M x q e := fun x q e a1 a2 a3 hne => (h1 _ (fun hh => hne ((same x q e a1 a2 a3).mp hh))).2
  have evN : vC M' m i j = min (sumN (wt G (vC M) m i j) 18634) 1000000000 := by
    have e0 : vC M' m i j = (aT_count M' ((m * 11 + i) * 11 + j).toNat).toNat := if_pos ⟨by omega, by omega, by omega⟩
    rw [e0, h2, Int.toNat_natCast]
  have hR' : tR' M' := by
    intro k hk2
    by_cases e : k = ((m * 11 + i) * 11 + j).toNat
    · rw [e, h2]
      have := Nat.min_le_right (sumN (wt G (vC M) m i j) 18634) 1000000000
      omega
    · rw [(h1 k e).1]; exact f1 k hk2
  have hw' : ∀ x q e : Int, 6 ≤ x → x < 10 → 0 ≤ q → q ≤ 10 → 0 ≤ e → e ≤ 10 → aT_count M' ((x * 11 + q) * 11 + e).toNat = ((T x q e).toNat : Int) ∧ fC' M' x q e = 0 := by
    intro x q e a1 a2 a3 a4 a5 a6
    rw [ef x q e (by omega) (by omega) (by omega) (by omega), (h1 _ (fun hh => by have := (same x q e (by omega) (by omega) (by omega)).mp hh; omega)).1]
    exact f2 x q e a1 a2 a3 a4 a5 a6
  have hcv' : cv T (vC M') = vC M' := vC_cv hG hT hD hR' hw'
  have kne : ∀ x q e : Int, K x q e → ¬ (x = m ∧ q = i ∧ e = j) := by
    rintro x q e hK ⟨rfl, rfl, rfl⟩
    exact hnk hK
  have f3' : ∀ x q e : Int, x < 6 → vC M' x q e ≠ 0 → K x q e ∨ (x = m ∧ q = i ∧ e = j) := by
    intro x q e h6 hne
    by_cases hh : x = m ∧ q = i ∧ e = j
    · exact Or.inr hh
    · rw [ev x q e hh] at hne
      exact Or.inl (f3 x q e h6 hne)
  have f4' : ∀ x q e : Int, (K x q e ∨ (x = m ∧ q = i ∧ e = j)) → usd G n T x q e := by
    rintro x q e (hK | ⟨rfl, rfl, rfl⟩)
    · exact f4 x q e hK
    · exact hu
  have hon' : onT T (vC M') := by
    rw [← hcv']
    refine cv_onT (fun x q e hne => ?_)
    by_cases h6 : x < 6
    · exact ((f4' _ _ _ (f3' x q e h6 hne)).rng hG hT hD).2.2
    · rw [ev x q e (by omega)] at hne
      exact hon x q e hne
  have wc : ∀ x q e : Int, (∀ a b c : Int, kid G T x q e a b c → K a b c) → sumN (wt G (vC M) x q e) 18634 = sumN (wt G (vC M') x q e) 18634 := by
    intro x q e hkk
    have := wt_congr (κ := vC M) (κ' := vC M') (m := x) (i := q) (j := e) hG (by rw [hcv]; exact hon) (by rw [hcv']; exact hon') (fun a b c hkd => (ev a b c (kne _ _ _ (hkk a b c hkd))).symm) 18634
    rw [hcv, hcv'] at this
    exact this
  have kr : ∀ x q e a b c : Int, usd G n T x q e → kid G T x q e a b c → (0 ≤ a ∧ a < 10) ∧ (0 ≤ b ∧ b ≤ 10) ∧ (0 ≤ c ∧ c ≤ 10) := by
    intro x q e a b c hux hkd
    have := (hux.kid hkd).rng hG hT hD
    omega
  have fc : ∀ (x q e L : Int), usd G n T x q e → (∀ a b c : Int, kid G T x q e a b c → K a b c) → flE G T (vC M) (fC' M) x q e L → flE G T (vC M') (fun a b c => if a < 6 then fC' M' a b c else 0) x q e L := by
    intro x q e L hux hkk hE
    have hE2 : flE G T (cv T (vC M)) (fun a b c => if a < 6 then fC' M a b c else 0) x q e L := by
      rw [hcv]
      obtain ⟨r, u, hr, hl, hc, hb, hs, hL⟩ := hE
      refine ⟨r, u, hr, hl, hc, hb, hs, ?_⟩
      rw [hL, flS_congr (fl := fC' M) (fl' := fun a b c => if a < 6 then fC' M a b c else 0) _ (fun k hlt => ?_)]
      by_cases h6 : gs G r (k : Int) < 6
      · rw [if_pos h6]
      · rw [if_neg h6]
        have g := hG.2 r hr.1 hr.2
        have hsy := g.2.2 k (by omega) (by omega)
        have hd := ((hD _ _ _).mp (hc.2.2 k hlt)).rng hG hT
        exact (f2 _ _ _ (by omega) hsy.2 (by omega) (by omega) (by omega) (by omega)).2
    have := flE.congr (fl := fun a b c => if a < 6 then fC' M a b c else 0) (fl' := fun a b c => if a < 6 then fC' M' a b c else 0) hG hT hD (κ := vC M) (κ' := vC M') (by rw [hcv]; exact hon) (by rw [hcv']; exact hon') (fun a b c hkd => (ev a b c (kne _ _ _ (hkk a b c hkd))).symm) (fun a b c hkd => by
      have hr := kr _ _ _ a b c hux hkd
      show (if a < 6 then fC' M a b c else 0) = (if a < 6 then fC' M' a b c else 0)
      rw [ef a b c hr.1 hr.2.1 hr.2.2 (kne _ _ _ (hkk a b c hkd))]) (fun a b c h6 => by show (if a < 6 then fC' M a b c else 0) = (if a < 6 then fC' M' a b c else 0); rw [if_neg (by omega), if_neg (by omega)]) hE2
    rw [hcv'] at this
    exact this
  -- back to the memory's own lengths
  have fb : ∀ (x q e L : Int), flE G T (vC M') (fun a b c => if a < 6 then fC' M' a b c else 0) x q e L → flE G T (vC M') (fC' M') x q e L := by
    rintro x q e L ⟨r, u, hr, hl, hc, hb, hs, hL⟩
    refine ⟨r, u, hr, hl, hc, hb, hs, ?_⟩
    rw [hL, flS_congr (fl := fun a b c => if a < 6 then fC' M' a b c else 0) (fl' := fC' M') _ (fun k hlt => ?_)]
    by_cases h6 : gs G r (k : Int) < 6
    · exact if_pos h6
    · have g := hG.2 r hr.1 hr.2
      have hsy := g.2.2 k (by omega) (by omega)
      have hd := ((hD _ _ _).mp (hc.2.2 k hlt)).rng hG hT
      rw [if_neg h6]
      exact (hw' _ _ _ (by omega) hsy.2 (by omega) (by omega) (by omega) (by omega)).2.symm
  refine ⟨hR', hw', f3', f4', fun x q e hK => ?_, fun x q e hK => ?_, fun x q e h6 hne => ?_⟩
  · rcases hK with hK | ⟨rfl, rfl, rfl⟩
    · rw [r1 _ _ _ (kne _ _ _ hK)]
      refine ⟨(f5 _ _ _ hK).1, fun a b c hkd => ?_⟩
      have h5 := (f5 _ _ _ hK).2 a b c hkd
      rw [r1 _ _ _ (kne _ _ _ h5.1)]
      exact ⟨Or.inl h5.1, h5.2⟩
    · rw [r2]
      refine ⟨by omega, fun a b c hkd => ?_⟩
      have h5 := hk a b c hkd
      rw [r1 _ _ _ (kne _ _ _ h5.1)]
      exact ⟨Or.inl h5.1, h5.2⟩
  · rcases hK with hK | ⟨rfl, rfl, rfl⟩
    · rw [ev _ _ _ (kne _ _ _ hK), f6 _ _ _ hK, wc _ _ _ (fun a b c hkd => ((f5 _ _ _ hK).2 a b c hkd).1)]
    · rw [evN, wc _ _ _ (fun a b c hkd => (hk a b c hkd).1)]
  · by_cases hh : x = m ∧ q = i ∧ e = j
    · obtain ⟨rfl, rfl, rfl⟩ := hh
      rw [evN] at hne
      have hE := (h3 (fun h0 => hne (by rw [h0]; rfl))).flE hG hT hD hon (by omega)
      have hE' := fc x q e _ hu (fun a b c hkd => (hk a b c hkd).1) hE
      refine ⟨fb _ _ _ _ hE', ?_⟩
      rw [r2, show 6 * (e - q) + p - 6 * (e - q) = p by omega]
      obtain ⟨r, u, hr, hl, hc, hb, hs, hL⟩ := hE
      have hbn := (rkB_ne _).mp hb
      have hLe : fC' M' x q e = 1 + flS G (fC' M) r u (gz G r).toNat := hL
      have gz4 := (hG.2 r hr.1 hr.2).2.1
      have hkk : ∀ k : Nat, k < (gz G r).toNat → gs G r (k : Int) < 6 → kid G T x q e (gs G r (k : Int)) (u k) (u (k + 1)) := fun k hlt h6 => kid_cuts hG hT hD hr hl hc hlt (by omega)
      have hwd : ∀ k : Nat, k < (gz G r).toNat → 6 ≤ gs G r (k : Int) → fC' M (gs G r (k : Int)) (u k) (u (k + 1)) = 0 := by
        intro k hlt h6
        have hsy := (hG.2 r hr.1 hr.2).2.2 k (by omega) (by omega)
        have hd := ((hD _ _ _).mp (hc.2.2 k hlt)).rng hG hT
        exact (f2 _ _ _ h6 hsy.2 (by omega) (by omega) (by omega) (by omega)).2
      have hb1 := fl_bound (fl := fC' M) hG hT hD hr hc hp ρ (fun k hlt h6 => by
        have h5 := hk _ _ _ (hkk k hlt h6)
        exact ⟨(f5 _ _ _ h5.1).1, h5.2, (f7 _ _ _ h6 (hbn k hlt)).2.2⟩) hwd
      have hpos : ∀ d : Nat, d ≤ (gz G r).toNat → 0 ≤ flS G (fC' M) r u d := by
        intro d
        induction d with
        | zero => intro _; exact Int.le_refl 0
        | succ d ih =>
          intro hd
          have h8 : 0 ≤ fC' M (gs G r (d : Int)) (u d) (u (d + 1)) := by
            by_cases h6 : gs G r (d : Int) < 6
            · exact (f7 _ _ _ h6 (hbn d (by omega))).2.1
            · rw [hwd d (by omega) (by omega)]; exact Int.le_refl 0
          have h9 := ih (by omega)
          show 0 ≤ flS G (fC' M) r u d + _
          omega
      have := hpos _ (Nat.le_refl _)
      omega
    · rw [ev x q e hh] at hne
      have hK := f3 x q e h6 hne
      have hr := (f4 _ _ _ hK).rng hG hT hD
      obtain ⟨a1, a2, a3⟩ := f7 x q e h6 hne
      rw [r1 _ _ _ hh, ef x q e (by omega) (by omega) (by omega) hh]
      exact ⟨fb _ _ _ _ (fc x q e _ (f4 _ _ _ hK) (fun a b c hkd => ((f5 _ _ _ hK).2 a b c hkd).1) a1), a2, a3⟩
end FA
