/-! The model's parts -/
/-- the model's memory holds the text -/
def isY (n : Int) (w : Int → Int) (M : ev_M) : Prop := sM_length M = n ∧ ∀ p : Int, 0 ≤ p → p < n → aM_text M p.toNat = w p
def tt (M : ev_M) (x i j : Int) : Prop := (0 ≤ x ∧ x < 10) ∧ (0 ≤ i ∧ i ≤ 10) ∧ (0 ≤ j ∧ j ≤ 10) ∧ aM_table M (121 * x + 11 * i + j).toNat = 1
def tR (M : ev_M) : Prop := ∀ k : Nat, k < 1210 → aM_table M k = 0 ∨ aM_table M k = 1
def tS (G : gT) (n : Int) (w : Int → Int) (M : ev_M) : Prop := tR M ∧ ∀ x i j : Int, tt M x i j → der G n w x i j
/-- the table of parts is found -/
def PAR (G : gT) (n : Int) (w : Int → Int) (M : ev_M) : Prop := tR M ∧ ∀ x i j : Int, tt M x i j ↔ der G n w x i j
section MP
variable {G : gT} {n : Int} {w : Int → Int} {M M' : ev_M} {x i j r : Int}
theorem isY.of (h : isY n w M) (h1 : M'.1 12 = M.1 12) (h2 : M'.2 34 = M.2 34) : isY n w M' := by
  unfold isY at h ⊢
  simp only [sM_length, aM_text] at h ⊢
  rw [h1, h2]
  exact h
theorem g_m101 {Q : Int → ev_M → Prop} (hR : tR M) (x0 : 0 ≤ x ∧ x < 10) (i0 : 0 ≤ i ∧ i ≤ 10) (j0 : 0 ≤ j ∧ j ≤ 10) (h1 : tt M x i j → Q 1 M) (h0 : ¬ tt M x i j → Q 0 M) : m101 x i j M Q := by
  refine b101 ⟨⟨by omega, by omega⟩, ⟨by omega, by omega⟩, ⟨by omega, by omega⟩, ⟨by omega, by omega⟩, ⟨by omega, by omega⟩, hR _ (by omega), ?_⟩
  rcases hR (121 * x + 11 * i + j).toNat (by omega) with e | e
  · rw [e]
    exact h0 (fun h => by have := h.2.2.2; omega)
  · rw [e]
    exact h1 ⟨x0, i0, j0, e⟩
theorem sr_i {P : Int} (hP : 0 ≤ P ∧ P < 2048) {q : Int} : 0 ≤ tm_sr P q ∧ tm_sr P q < 2147483648 := by
  have h3 : P.toNat >>> q.toNat ≤ P.toNat := Nat.shiftRight_le _ _
  refine ⟨Int.natCast_nonneg _, ?_⟩
  show ((P.toNat >>> q.toNat : Nat) : Int) < 2147483648
  omega
theorem g_m102 {Q : Int → ev_M → Prop} (hG : okG G) (hT : okT n w) (hM : isM G M) (hS : tS G n w M) (hr : 0 ≤ r ∧ r < gn G) (hij : 0 ≤ i ∧ i ≤ j ∧ j ≤ n) (h1 : pth G (tt M) r (gz G r).toNat i j → Q 1 M) (h0 : ¬ pth G (tt M) r (gz G r).toNat i j → Q 0 M) : m102 r i j M Q := by
  have hn := hT.1
  have gc := hG.1
  have hg := hG.2 r hr.1 hr.2
  obtain ⟨-, esz, esy⟩ := hM.2 r hr.1 hr.2
  refine b102 ⟨⟨by omega, by omega⟩, sl_i2 ⟨by omega, by omega⟩, ?_⟩
  refine lp (σ := Int) (n := gz G r) (c := fun d v => c102_8 r i j v d M Q) (P := fun d v => (0 ≤ v ∧ v < 2048) ∧ ∀ q : Int, 0 ≤ q → (bt v q.toNat = true ↔ (q ≤ j ∧ pth G (tt M) r d.toNat i q))) ?_ ?_ (by omega) hg.2.1.1 ⟨sl_rng (n := 11) (by omega), fun q q0 => ?_⟩
  · intro d P d0 d1 hP ih
    have hsy := hg.2.2 d d0 d1
    have esd : aM_right M (4 * r + d).toNat = gs G r d := esy d d0 d1
    have ed : ((d.toNat : Nat) : Int) = d := by omega
    refine b102_8 ⟨⟨by omega, by omega⟩, fun g => absurd g (by rw [esz]; omega), fun _ => ?_⟩
    refine lp (σ := Int) (n := j + 1) (c := fun p v => c102_25 r i j P d v p M Q) (P := fun p v => i ≤ p ∧ (0 ≤ v ∧ v < 2048) ∧ ∀ q : Int, 0 ≤ q → (bt v q.toNat = true ↔ ∃ p' : Int, i ≤ p' ∧ p' < p ∧ p' ≤ q ∧ q ≤ j ∧ bt P p'.toNat = true ∧ tt M (gs G r d) p' q)) ?_ ?_ (by omega) (by omega) ⟨by omega, by omega, fun q q0 => ?_⟩
    · rintro p v p0 p1 ⟨hip, hv⟩ ihp
      · refine b102_25 ⟨fun g => absurd g (by omega), fun _ => ?_⟩
        have out : ∀ v' : Int, ((0 ≤ v' ∧ v' < 2048) ∧ ∀ q : Int, 0 ≤ q → (bt v' q.toNat = true ↔ ((∃ p' : Int, i ≤ p' ∧ p' < p ∧ p' ≤ q ∧ q ≤ j ∧ bt P p'.toNat = true ∧ tt M (gs G r d) p' q) ∨ (p ≤ q ∧ q ≤ j ∧ bt P p.toNat = true ∧ tt M (gs G r d) p q)))) → c102_94 r i j P d v' p M Q := by
          intro v' hv'
          refine b102_94 ⟨⟨by omega, by omega⟩, ihp v' ⟨by omega, hv'.1, fun q q0 => (hv'.2 q q0).trans ⟨?_, ?_⟩⟩⟩
          · rintro (⟨p', a1, a2, a3⟩ | ⟨a1, a2, a3, a4⟩)
            · exact ⟨p', a1, by omega, a3⟩
            · exact ⟨p, hip, by omega, a1, a2, a3, a4⟩
          · rintro ⟨p', a1, a2, a3, a4, a5, a6⟩
            by_cases e : p' = p
            · subst e; exact Or.inr ⟨a3, a4, a5, a6⟩
            · exact Or.inl ⟨p', a1, by omega, a3, a4, a5, a6⟩
        refine lp (σ := Int) (n := j + 1) (c := fun q v => c102_35 r i j P d v p q M Q) (P := fun q v => (p ≤ q) ∧ (0 ≤ v ∧ v < 2048) ∧ ∀ q' : Int, 0 ≤ q' → (bt v q'.toNat = true ↔ ((∃ p' : Int, i ≤ p' ∧ p' < p ∧ p' ≤ q' ∧ q' ≤ j ∧ bt P p'.toNat = true ∧ tt M (gs G r d) p' q') ∨ (p ≤ q' ∧ q' < q ∧ bt P p.toNat = true ∧ tt M (gs G r d) p q')))) ?_ ?_ (by omega) (by omega) ⟨by omega, hv.1, fun q' q0 => (hv.2 q' q0).trans ⟨fun h => Or.inl h, fun h => ?_⟩⟩
        · rintro q v q0 q1 ⟨hpq, hvr, hvb⟩ ihq
          refine b102_35 ⟨fun g => absurd g (by omega), fun _ => ⟨⟨by omega, by omega⟩, ⟨by omega, by omega⟩, sr_i hP.1, fun g => out v ⟨hvr, fun q' q0 => (hvb q' q0).trans ?_⟩, fun g => ?_⟩⟩
          · have hb : ¬ bt P p.toNat = true := fun h => g (bt_sr1.mpr h)
            exact ⟨fun h => h.elim Or.inl (fun h => absurd h.2.2.1 hb), fun h => h.elim Or.inl (fun h => absurd h.2.2.1 hb)⟩
          · have hb : bt P p.toNat = true := bt_sr1.mp (Decidable.of_not_not g)
            refine ⟨⟨by omega, by omega⟩, ⟨by omega, by omega⟩, ⟨by omega, by omega⟩, ?_⟩
            rw [esd]
            refine g_m101 hS.1 hsy ⟨by omega, by omega⟩ ⟨by omega, by omega⟩ (fun ht => ⟨fun g => absurd g (by decide), fun _ => ⟨⟨by omega, by omega⟩, sl_i2 ⟨by omega, by omega⟩, ⟨by omega, by omega⟩, ?_, b102_86 ⟨⟨by omega, by omega⟩, ihq _ ⟨by omega, or_rng (n := 11) hvr (by omega), fun q' q0' => ?_⟩⟩⟩⟩) (fun ht => ⟨fun _ => b102_86 ⟨⟨by omega, by omega⟩, ihq v ⟨by omega, hvr, fun q' q0' => (hvb q' q0').trans ?_⟩⟩, fun g => absurd rfl g⟩)
            · have := sl_rng (y := q) (n := 11) (by omega)
              exact ⟨this.1, by omega⟩
            · rw [bt_or, Bool.or_eq_true, decide_eq_true_iff, hvb q' q0']
              constructor
              · rintro ((h | ⟨a1, a2, a3⟩) | h)
                · exact Or.inl h
                · exact Or.inr ⟨a1, by omega, a3⟩
                · have e : q' = q := by omega
                  subst e
                  exact Or.inr ⟨hpq, by omega, hb, ht⟩
              · rintro (h | ⟨a1, a2, a3, a4⟩)
                · exact Or.inl (Or.inl h)
                · by_cases e : q' = q
                  · subst e; exact Or.inr rfl
                  · exact Or.inl (Or.inr ⟨a1, by omega, a3, a4⟩)
            · constructor
              · rintro (h | ⟨a1, a2, a3⟩)
                · exact Or.inl h
                · exact Or.inr ⟨a1, by omega, a3⟩
              · rintro (h | ⟨a1, a2, a3, a4⟩)
                · exact Or.inl h
                · by_cases e : q' = q
                  · subst e; exact absurd a4 ht
                  · exact Or.inr ⟨a1, by omega, a3, a4⟩
        · rintro v ⟨-, hvr, hvb⟩
          refine b102_35 ⟨fun _ => out v ⟨hvr, fun q' q0 => (hvb q' q0).trans ?_⟩, fun g => absurd (by omega) g⟩
          exact ⟨fun h => h.elim Or.inl (fun h => Or.inr ⟨h.1, by omega, h.2.2⟩), fun h => h.elim Or.inl (fun h => Or.inr ⟨h.1, by omega, h.2.2⟩)⟩
        · rcases h with h | h
          · exact h
          · omega
    · rintro v ⟨-, hv⟩
      refine b102_25 ⟨fun _ => ⟨⟨by omega, by omega⟩, ih v ⟨hv.1, fun q q0 => (hv.2 q q0).trans ?_⟩⟩, fun g => absurd (by omega) g⟩
      rw [show (d + 1).toNat = d.toNat + 1 by omega]
      constructor
      · rintro ⟨p', a1, a2, a3, a4, a5, a6⟩
        exact ⟨a4, p', ((hP.2 p' (by omega)).mp a5).2, by rw [ed]; exact a6⟩
      · rintro ⟨a1, m, m1, m2⟩
        rw [ed] at m2
        have m3 := (hS.2 _ _ _ m2).rng hG hT
        have m4 : i ≤ m := pth_le (D := tt M) (fun x a b h => ((hS.2 _ _ _ h).rng hG hT).2.2.1) m1
        exact ⟨m, m4, by omega, by omega, a1, (hP.2 m (by omega)).mpr ⟨by omega, m1⟩, m2⟩
    · rw [bt_zero]
      refine ⟨fun h => absurd h (by decide), ?_⟩
      rintro ⟨p', a1, a2, -⟩
      omega
  · intro P hP
    have hb := hP.2 j (by omega)
    refine b102_8 ⟨⟨by omega, by omega⟩, fun _ => ⟨⟨by omega, by omega⟩, ⟨by omega, by omega⟩, sr_i hP.1, fun g => b102_125 ⟨Or.inl rfl, h0 (fun hp => g (bt_sr1.mpr (hb.mpr ⟨by omega, hp⟩)))⟩, fun g => b102_125 ⟨Or.inr rfl, h1 (hb.mp (bt_sr1.mp (Decidable.of_not_not g))).2⟩⟩, fun g => absurd (by rw [esz]; omega) g⟩
  · rw [bt_sl, decide_eq_true_iff]
    show _ ↔ (q ≤ j ∧ i = q)
    omega
end MP
