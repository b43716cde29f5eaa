/-! The model: families -/
/-- a family: each symbol stands for its part -/
abbrev isF (G : gT) (T : Int → Int → Int → Bool) (m f t r a b c : Int) : Prop := vt G m f t r a b c ∧ (gz G r = 0 → f = t) ∧ (0 < gz G r → T (gs G r 0) f a = true) ∧ (1 < gz G r → T (gs G r 1) a b = true) ∧ (2 < gz G r → T (gs G r 2) b c = true) ∧ (3 < gz G r → T (gs G r 3) c t = true)
def pf (f a b c k : Int) : Int := if k = 0 then f else if k = 1 then a else if k = 2 then b else c
def pt (a b c t k : Int) : Int := if k = 0 then a else if k = 1 then b else if k = 2 then c else t
/-- the chart as a row of yes and no -/
def isD (G : gT) (n : Int) (w : Int → Int) (T : Int → Int → Int → Bool) : Prop := ∀ x i j : Int, T x i j = true ↔ der G n w x i j
section FM
variable {G : gT} {n : Int} {w : Int → Int} {T : Int → Int → Int → Bool} {m f t : Int} {M : ev_M} {k : Int}
theorem isF_iff (hG : okG G) {r a b c : Int} : isF G T m f t r a b c ↔ (vt G m f t r a b c ∧ (gz G r = 0 → f = t) ∧ ∀ k : Int, 0 ≤ k → k < gz G r → T (gs G r k) (pf f a b c k) (pt a b c t k) = true) := by
  constructor
  · rintro ⟨h1, h2, h3, h4, h5, h6⟩
    have g := (hG.2 r h1.1.1 h1.1.2).2.1
    refine ⟨h1, h2, fun k k0 k1 => ?_⟩
    rcases (by omega : k = 0 ∨ k = 1 ∨ k = 2 ∨ k = 3) with rfl | rfl | rfl | rfl
    · exact h3 k1
    · exact h4 k1
    · exact h5 k1
    · exact h6 k1
  · rintro ⟨h1, h2, h3⟩
    exact ⟨h1, h2, fun h => h3 0 (by omega) h, fun h => h3 1 (by omega) h, fun h => h3 2 (by omega) h, fun h => h3 3 (by omega) h⟩
theorem g_m108 {Q : Int → ev_M → Prop} (h : Q (pf (sM_from M) (sM_one M) (sM_two M) (sM_three M) k) M) : m108 k M Q := by
  unfold pf at h
  refine b108 ⟨fun g => ⟨fun g1 => ⟨fun g2 => b108_39 ?_, fun g2 => b108_39 ?_⟩, fun g1 => b108_39 ?_⟩, fun g => b108_39 ?_⟩
  · rw [if_neg g, if_neg g1, if_neg g2] at h; exact h
  · rw [if_neg g, if_neg g1, if_pos (Decidable.of_not_not g2)] at h; exact h
  · rw [if_neg g, if_pos (Decidable.of_not_not g1)] at h; exact h
  · rw [if_pos (Decidable.of_not_not g)] at h; exact h
theorem g_m109 {Q : Int → ev_M → Prop} (h : Q (pt (sM_one M) (sM_two M) (sM_three M) (sM_to M) k) M) : m109 k M Q := by
  unfold pt at h
  refine b109 ⟨fun g => ⟨fun g1 => ⟨fun g2 => b109_39 ?_, fun g2 => b109_39 ?_⟩, fun g1 => b109_39 ?_⟩, fun g => b109_39 ?_⟩
  · rw [if_neg g, if_neg g1, if_neg g2] at h; exact h
  · rw [if_neg g, if_neg g1, if_pos (Decidable.of_not_not g2)] at h; exact h
  · rw [if_neg g, if_pos (Decidable.of_not_not g1)] at h; exact h
  · rw [if_pos (Decidable.of_not_not g)] at h; exact h
theorem pf_rng {a b c : Int} (hf : 0 ≤ f ∧ f ≤ 10) (ha : 0 ≤ a ∧ a ≤ 10) (hb : 0 ≤ b ∧ b ≤ 10) (hc : 0 ≤ c ∧ c ≤ 10) : 0 ≤ pf f a b c k ∧ pf f a b c k ≤ 10 := by
  unfold pf; split
  · omega
  · split
    · omega
    · split <;> omega
theorem pt_rng {a b c : Int} (hf : 0 ≤ t ∧ t ≤ 10) (ha : 0 ≤ a ∧ a ≤ 10) (hb : 0 ≤ b ∧ b ≤ 10) (hc : 0 ≤ c ∧ c ≤ 10) : 0 ≤ pt a b c t k ∧ pt a b c t k ≤ 10 := by
  unfold pt; split
  · omega
  · split
    · omega
    · split <;> omega
theorem g_m110 {Q : Int → ev_M → Prop} (hG : okG G) (hM : isM G M) (hP : PAR G n w M) (hD : isD G n w T) (hf : 0 ≤ f ∧ f ≤ t ∧ t ≤ 10) (hI : itR G m f t M) (hr : 0 ≤ sM_rule M) (h1 : isF G T m f t (sM_rule M) (sM_one M) (sM_two M) (sM_three M) → Q 1 M) (h0 : ¬ isF G T m f t (sM_rule M) (sM_one M) (sM_two M) (sM_three M) → Q 0 M) : m110 M Q := by
  obtain ⟨im, iF, iT, ir⟩ := hI
  have hv : vt G m f t (sM_rule M) (sM_one M) (sM_two M) (sM_three M) := by
    rcases ir with e | e
    · omega
    · exact e
  have hv2 := hv.rng hG hf
  have r1 := hv.1.2
  have hg := hG.2 _ hr r1
  obtain ⟨-, esz, esy⟩ := hM.2 _ hr r1
  rw [isF_iff hG] at h1 h0
  -- the loop
  have loop : ∀ v : Int, ((v = 1 ∧ (gz G (sM_rule M) = 0 → f = t)) ∨ (v = 0 ∧ ¬ (gz G (sM_rule M) = 0 → f = t))) → c110_28 v M Q := by
    intro v hv0
    refine b110_28 ?_
    refine lp (σ := Int) (n := gz G (sM_rule M)) (c := fun k v => c110_31 v k M Q) (P := fun k v => (v = 1 ∧ (gz G (sM_rule M) = 0 → f = t) ∧ ∀ k' : Int, 0 ≤ k' → k' < k → T (gs G (sM_rule M) k') (pf f (sM_one M) (sM_two M) (sM_three M) k') (pt (sM_one M) (sM_two M) (sM_three M) t k') = true) ∨ (v = 0 ∧ ¬ ((gz G (sM_rule M) = 0 → f = t) ∧ ∀ k : Int, 0 ≤ k → k < gz G (sM_rule M) → T (gs G (sM_rule M) k) (pf f (sM_one M) (sM_two M) (sM_three M) k) (pt (sM_one M) (sM_two M) (sM_three M) t k) = true))) ?_ ?_ (by omega) hg.2.1.1 ?_
    · intro k v k0 k1 hP2 ih
      have hsy := hg.2.2 k k0 k1
      have no : ¬ ((gz G (sM_rule M) = 0 → f = t) ∧ ∀ k : Int, 0 ≤ k → k < gz G (sM_rule M) → T (gs G (sM_rule M) k) (pf f (sM_one M) (sM_two M) (sM_three M) k) (pt (sM_one M) (sM_two M) (sM_three M) t k) = true) → c110_82 k M Q := fun hn => b110_82 (b110_83 ⟨⟨by omega, by omega⟩, ih 0 (Or.inr ⟨rfl, hn⟩)⟩)
      refine b110_31 ⟨⟨hr, by omega⟩, fun g => absurd g (by rw [esz]; omega), fun _ => ⟨fun g => no ?_, fun g => ⟨⟨by omega, by omega⟩, ⟨by omega, by omega⟩, ⟨by omega, by omega⟩, g_m108 (g_m109 ?_)⟩⟩⟩
      · rcases hP2 with ⟨e, -⟩ | ⟨-, hn⟩
        · omega
        · exact hn
      · have esk : aM_right M (4 * sM_rule M + k).toNat = gs G (sM_rule M) k := esy k k0 k1
        rw [esk, iF, iT]
        have hb := (hP.2 (gs G (sM_rule M) k) (pf f (sM_one M) (sM_two M) (sM_three M) k) (pt (sM_one M) (sM_two M) (sM_three M) t k)).trans (hD _ _ _).symm
        refine g_m101 hP.1 hsy (pf_rng (by omega) hv2.2.1 hv2.2.2.1 hv2.2.2.2.1) (pt_rng (by omega) hv2.2.1 hv2.2.2.1 hv2.2.2.2.1) (fun ht => ⟨fun g => absurd g (by decide), fun _ => b110_83 ⟨⟨by omega, by omega⟩, ih 1 (Or.inl ⟨rfl, ?_⟩)⟩⟩) (fun ht => ⟨fun _ => no (fun hn => ht (hb.mpr (hn.2 k k0 k1))), fun g => absurd rfl g⟩)
        rcases hP2 with ⟨-, h2, h3⟩ | ⟨e, -⟩
        · refine ⟨h2, fun k' a1 a2 => ?_⟩
          by_cases e : k' = k
          · subst e; exact hb.mp ht
          · exact h3 k' a1 (by omega)
        · exact absurd e g
    · intro v hP2
      refine b110_31 ⟨⟨hr, by omega⟩, fun _ => ?_, fun g => absurd (by rw [esz]; omega) g⟩
      rcases hP2 with ⟨e, h2, h3⟩ | ⟨e, hn⟩
      · subst e; exact ⟨Or.inr rfl, h1 ⟨hv, h2, h3⟩⟩
      · subst e; exact ⟨Or.inl rfl, h0 (fun h => hn h.2)⟩
    · rcases hv0 with ⟨e, h2⟩ | ⟨e, h2⟩
      · exact Or.inl ⟨e, h2, fun k' a1 a2 => by omega⟩
      · exact Or.inr ⟨e, fun h => h2 h.1⟩
  refine b110 ⟨⟨hr, by omega⟩, fun g => b110_23 (loop 1 (Or.inl ⟨rfl, fun h => ?_⟩)), fun g => ⟨fun g2 => loop 0 (Or.inr ⟨rfl, fun h => g2 ?_⟩), fun g2 => b110_23 (loop 1 (Or.inl ⟨rfl, fun _ => ?_⟩))⟩⟩
  · rw [esz] at g; omega
  · rw [esz] at g
    rw [iF, iT]
    exact h (by omega)
  · rw [iF, iT] at g2
    exact Decidable.of_not_not g2
/-- the next family -/
theorem g_m111 {Q : Int → ev_M → Prop} (hG : okG G) (hM : isM G M) (hP : PAR G n w M) (hD : isD G n w T) (hf : 0 ≤ f ∧ f ≤ t ∧ t ≤ 10) (hI : itR G m f t M)
    (h1 : ∀ M' : ev_M, fr itS [] M M' → 0 ≤ sM_rule M' → itR G m f t M' → isF G T m f t (sM_rule M') (sM_one M') (sM_two M') (sM_three M') → cur M < cur M' → (∀ r a b c : Int, isF G T m f t r a b c → cur M < (1331 * r + 121 * a + 11 * b + c) → cur M' ≤ (1331 * r + 121 * a + 11 * b + c)) → Q 1 M')
    (h0 : ∀ M' : ev_M, fr itS [] M M' → (∀ r a b c : Int, isF G T m f t r a b c → (1331 * r + 121 * a + 11 * b + c) ≤ cur M) → Q 0 M') : m111 M Q := by
  -- one step on, from a memory before which no family is left out
  have step : ∀ (k : Nat) (M1 : ev_M), 18634 - cur M1 ≤ k → fr itS [] M M1 → itR G m f t M1 → cur M ≤ cur M1 → (∀ r a b c : Int, isF G T m f t r a b c → cur M < (1331 * r + 121 * a + 11 * b + c) → cur M1 < (1331 * r + 121 * a + 11 * b + c)) → m107 M1 (fun w1 M2 => c111_5 w1 M2 Q) := by
    intro k
    induction k with
    | zero =>
      intro M1 hk hf1 hI1 hle hno
      have hM1 : isM G M1 := hM.of (hf1.1 11 (by decide)) (hf1.2 31 (by decide)) (hf1.2 32 (by decide)) (hf1.2 33 (by decide))
      refine g_m107 hG hM1 hf hI1 (fun M2 hf2 hr2 hI2 hlt2 hmin2 => ?_) (fun M2 hf2 hall => ?_)
      · exfalso
        rcases hI2.2.2.2 with e | e
        · omega
        · have := e.rng hG hf
          have ec : cur M2 = (1331 * (sM_rule M2) + 121 * (sM_one M2) + 11 * (sM_two M2) + (sM_three M2)) := if_neg (by omega)
          omega
      · refine b111_5 ⟨fun _ => b111_24 ⟨Or.inl rfl, h0 M2 (hf1.trans hf2) (fun r a b c hF => ?_)⟩, fun g => absurd rfl g⟩
        have := hall r a b c hF.1
        refine Decidable.byContradiction (fun hn => ?_)
        have := hno r a b c hF (by omega)
        omega
    | succ k ih =>
      intro M1 hk hf1 hI1 hle hno
      have hM1 : isM G M1 := hM.of (hf1.1 11 (by decide)) (hf1.2 31 (by decide)) (hf1.2 32 (by decide)) (hf1.2 33 (by decide))
      refine g_m107 hG hM1 hf hI1 (fun M2 hf2 hr2 hI2 hlt2 hmin2 => ?_) (fun M2 hf2 hall => ?_)
      · have hf3 := hf1.trans hf2
        have hM2 : isM G M2 := hM.of (hf3.1 11 (by decide)) (hf3.2 31 (by decide)) (hf3.2 32 (by decide)) (hf3.2 33 (by decide))
        have hP2 : PAR G n w M2 := by
          unfold PAR tR tt at hP ⊢
          simp only [aM_table] at hP ⊢
          rw [hf3.2 39 (by decide)]
          exact hP
        have ec : cur M2 = (1331 * (sM_rule M2) + 121 * (sM_one M2) + 11 * (sM_two M2) + (sM_three M2)) := if_neg (by omega)
        refine b111_5 ⟨fun g => absurd g (by decide), fun _ => g_m110 hG hM2 hP2 hD hf hI2 hr2 (fun hF => ⟨fun _ => b111_24 ⟨Or.inr rfl, h1 M2 hf3 hr2 hI2 hF (by omega) (fun r a b c hF2 hlt => hmin2 r a b c hF2.1 (hno r a b c hF2 hlt))⟩, fun g => absurd (by decide) g⟩) (fun hF => ⟨fun g => absurd rfl g, fun _ => ih M2 (by omega) hf3 hI2 (by omega) (fun r a b c hF2 hlt => ?_)⟩)⟩
        have h3 := hmin2 r a b c hF2.1 (hno r a b c hF2 hlt)
        refine Decidable.byContradiction (fun hn => ?_)
        have e : (1331 * (sM_rule M2) + 121 * (sM_one M2) + 11 * (sM_two M2) + (sM_three M2)) = (1331 * r + 121 * a + 11 * b + c) := by omega
        have v1 := hF2.1.rng hG hf
        have v2 : vt G m f t (sM_rule M2) (sM_one M2) (sM_two M2) (sM_three M2) := by
          rcases hI2.2.2.2 with e | e
          · omega
          · exact e
        have v3 := v2.rng hG hf
        have e1 : r = sM_rule M2 := by omega
        have e2 : a = sM_one M2 := by omega
        have e3 : b = sM_two M2 := by omega
        have e4 : c = sM_three M2 := by omega
        rw [e1, e2, e3, e4] at hF2
        exact hF hF2
      · refine b111_5 ⟨fun _ => b111_24 ⟨Or.inl rfl, h0 M2 (hf1.trans hf2) (fun r a b c hF => ?_)⟩, fun g => absurd rfl g⟩
        have := hall r a b c hF.1
        refine Decidable.byContradiction (fun hn => ?_)
        have := hno r a b c hF (by omega)
        omega
  exact b111 (step (18634 - cur M).toNat M (by omega) fr.refl hI (Int.le_refl _) (fun _ _ _ _ _ h => h))
abbrev itS0 : List Nat := [18, 19, 20, 21, 22, 23, 24]
/-- the first family of a node -/
theorem g_m112 {Q : Int → ev_M → Prop} {nd : Int} (hG : okG G) (hM : isM G M) (hP : PAR G n w M) (hD : isD G n w T) (hm : 0 ≤ m) (hf : 0 ≤ f ∧ f ≤ t ∧ t ≤ 10) (hnd : nd = 121 * m + 11 * f + t) (hlt : nd < 726)
    (h1 : ∀ M' : ev_M, fr itS0 [] M M' → 0 ≤ sM_rule M' → itR G m f t M' → isF G T m f t (sM_rule M') (sM_one M') (sM_two M') (sM_three M') → (∀ r a b c : Int, isF G T m f t r a b c → cur M' ≤ (1331 * r + 121 * a + 11 * b + c)) → Q 1 M')
    (h0 : ∀ M' : ev_M, fr itS0 [] M M' → (∀ r a b c : Int, ¬ isF G T m f t r a b c) → Q 0 M') : m112 nd M Q := by
  have e1 : nd / 121 = m := by omega
  have e2 : nd / 11 % 11 = f := by omega
  have e3 : nd % 11 = t := by omega
  have hf0 : fr itS0 [] M (ev_sS (ev_sS (ev_sS (ev_sS M 18 (nd / 121)) 19 (nd / 11 % 11)) 20 (nd % 11)) 21 (-1)) := (((fr.refl.sS (by decide)).sS (by decide)).sS (by decide)).sS (by decide)
  refine b112 ⟨⟨by omega, by omega⟩, ⟨by omega, by omega⟩, ⟨by omega, by omega⟩, ⟨by omega, by omega⟩, ?_⟩
  have hc : cur (ev_sS (ev_sS (ev_sS (ev_sS M 18 (nd / 121)) 19 (nd / 11 % 11)) 20 (nd % 11)) 21 (-1)) = -1 := if_pos (show (-1 : Int) < 0 by omega)
  refine g_m111 hG (hM.of rfl rfl rfl rfl) hP hD hf ⟨e1, e2, e3, Or.inl rfl⟩ (fun M' hf' hr hI hF _ hmin => ⟨Or.inr rfl, h1 M' (hf0.trans (hf'.mono (by decide) (by decide))) hr hI hF (fun r a b c hF2 => hmin r a b c hF2 ?_)⟩) (fun M' hf' hall => ⟨Or.inl rfl, h0 M' (hf0.trans (hf'.mono (by decide) (by decide))) (fun r a b c hF => ?_)⟩)
  · rw [hc]
    have := hF2.1.rng hG hf
    omega
  · have h2 := hall r a b c hF
    rw [hc] at h2
    have := hF.1.rng hG hf
    omega
/-- the node of the k-th part, -1 for a word -/
theorem g_m113 {Q : Int → ev_M → Prop} (hG : okG G) (hM : isM G M) (hf : 0 ≤ f ∧ f ≤ t ∧ t ≤ 10) (hI : itR G m f t M) (hr : 0 ≤ sM_rule M) (hk : 0 ≤ k ∧ k < gz G (sM_rule M)) (h : Q (if gs G (sM_rule M) k ≤ 5 then 121 * gs G (sM_rule M) k + 11 * pf f (sM_one M) (sM_two M) (sM_three M) k + pt (sM_one M) (sM_two M) (sM_three M) t k else -1) M) : m113 k M Q := by
  obtain ⟨im, iF, iT, ir⟩ := hI
  have hv : vt G m f t (sM_rule M) (sM_one M) (sM_two M) (sM_three M) := by
    rcases ir with e | e
    · omega
    · exact e
  have hv2 := hv.rng hG hf
  have r1 := hv.1.2
  have hg := hG.2 _ hr r1
  have hsy := hg.2.2 k hk.1 hk.2
  have esk : aM_right M (4 * sM_rule M + k).toNat = gs G (sM_rule M) k := (hM.2 _ hr r1).2.2 k hk.1 hk.2
  have p1 := pf_rng (f := f) (k := k) (by omega) hv2.2.1 hv2.2.2.1 hv2.2.2.2.1
  have p2 := pt_rng (t := t) (k := k) (by omega) hv2.2.1 hv2.2.2.1 hv2.2.2.2.1
  refine b113 ⟨⟨by omega, by omega⟩, ⟨by omega, by omega⟩, ⟨by omega, by omega⟩, ?_⟩
  rw [esk]
  refine ⟨fun g => ⟨⟨by omega, by omega⟩, g_m108 ⟨?_, ?_, g_m109 ⟨?_, b113_42 ?_⟩⟩⟩, fun g => b113_42 ?_⟩
  · rw [iF]; exact ⟨by omega, by omega⟩
  · rw [iF]; exact ⟨by omega, by omega⟩
  · rw [iF, iT]; exact ⟨by omega, by omega⟩
  · rw [if_pos g] at h
    rw [iF, iT]
    exact h
  · rw [if_neg g] at h
    exact h
end FM
