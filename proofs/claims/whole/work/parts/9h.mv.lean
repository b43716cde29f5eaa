/-! The model's automaton: move -/
section MV
variable {G : gT} {M : ev_M} {k x y s : Int}
theorem mvd.no56 (hG : okG G) (h : mvd G k x y) : bt y 56 = false := by
  refine Bool.eq_false_iff.mpr (fun hb => ?_)
  rcases (h.2 56).mp hb with h | ⟨r, d, a1, a2, a3, a4, -, -, a7⟩
  · omega
  · have := (hG.2 r a1 a2).2.1
    have := hG.1
    omega
/-- what move has put before rule r, dot d -/
def mq (G : gT) (k x r d lo hi : Int) : Prop := vld G lo hi ∧ bt lo 0 = false ∧ (bt lo 1 = true ↔ (x = 0 ∧ bt k 56 = true)) ∧ ∀ r' d' : Int, 0 ≤ r' → r' < gn G → 0 ≤ d' → d' ≤ gz G r' → (it2 lo hi r' d' = true ↔ (1 ≤ d' ∧ (r' < r ∨ (r' = r ∧ d' - 1 < d)) ∧ gs G r' (d' - 1) = x ∧ ith G k r' (d' - 1)))
theorem mq.skip {r d lo hi : Int} (h : mq G k x r d lo hi) (hn : ¬ (gs G r d = x ∧ ith G k r d)) : mq G k x r (d + 1) lo hi := by
  refine ⟨h.1, h.2.1, h.2.2.1, fun r' d' a1 a2 a3 a4 => (h.2.2.2 r' d' a1 a2 a3 a4).trans ⟨fun h => ⟨h.1, by omega, h.2.2⟩, fun h => ⟨h.1, ?_, h.2.2⟩⟩⟩
  by_cases e : r' = r ∧ d' - 1 = d
  · obtain ⟨e1, e2⟩ := e
    rw [e1, e2] at h
    exact absurd h.2.2 hn
  · omega
theorem mq.put (hG : okG G) {r d lo hi : Int} (h : mq G k x r d lo hi) (r0 : 0 ≤ r) (r1 : r < gn G) (d0 : 0 ≤ d) (d1 : d < gz G r) (hs : gs G r d = x) (hi2 : ith G k r d) : mq G k x r (d + 1) (pL lo r (d + 1)) (pH hi r (d + 1)) := by
  have g2 := (hG.2 r r0 r1).2.1
  refine ⟨h.1.put hG r0 r1 (by omega) (by omega), (pL_01 r0 (by omega) (by omega)).trans h.2.1, ?_, fun r' d' a1 a2 a3 a4 => ?_⟩
  · rw [pL_01 r0 (by omega) (by omega)]; exact h.2.2.1
  · have g3 := (hG.2 r' a1 a2).2.1
    rw [it2_put r0 ⟨by omega, by omega⟩ a1 ⟨by omega, by omega⟩, Bool.or_eq_true, decide_eq_true_iff, h.2.2.2 r' d' a1 a2 a3 a4]
    constructor
    · rintro (h | ⟨e1, e2⟩)
      · exact ⟨h.1, by omega, h.2.2⟩
      · subst e1; subst e2
        refine ⟨by omega, by omega, ?_⟩
        rw [show d + 1 - 1 = d by omega]
        exact ⟨hs, hi2⟩
    · intro h
      by_cases e : r' = r ∧ d' = d + 1
      · exact Or.inr e
      · exact Or.inl ⟨h.1, by omega, h.2.2⟩
theorem mq.next {r lo hi : Int} (r0 : 0 ≤ r) (h : mq G k x r (gz G r) lo hi) : mq G k x (r + 1) 0 lo hi := by
  refine ⟨h.1, h.2.1, h.2.2.1, fun r' d' a1 a2 a3 a4 => (h.2.2.2 r' d' a1 a2 a3 a4).trans ⟨fun h => ⟨h.1, by omega, h.2.2⟩, fun h => ⟨h.1, ?_, h.2.2⟩⟩⟩
  by_cases e : r' = r
  · subst e; omega
  · omega
theorem mq.knl (hG : okG G) {lo hi : Int} (h : mq G k x (gn G) 0 lo hi) (hm : mvd G k x y) : knl G y lo hi := by
  refine ⟨h.2.1.trans (hm.no56 hG).symm, ?_, fun r d a1 a2 a3 a4 => ?_⟩
  · have e : bt lo 1 = true ↔ bt y 57 = true := by
      rw [h.2.2.1, hm.2 57]
      constructor
      · intro h; exact Or.inl ⟨rfl, h⟩
      · rintro (h | ⟨r, d, a1, a2, a3, a4, -, -, a7⟩)
        · exact h.2
        · have := (hG.2 r a1 a2).2.1
          have := hG.1
          omega
    cases e1 : bt lo 1 <;> cases e2 : bt y 57 <;> simp_all
  · have g2 := (hG.2 r a1 a2).2.1
    have g1 := hG.1
    have e : it2 lo hi r d = true ↔ bt y (r * 4 + d - 1).toNat = true := by
      rw [h.2.2.2 r d a1 a2 (by omega) a4, hm.2]
      constructor
      · rintro ⟨b1, b2, b3, b4⟩
        exact Or.inr ⟨r, d - 1, a1, a2, by omega, by omega, b3, b4, by omega⟩
      · rintro (h | ⟨r2, d2, b1, b2, b3, b4, b5, b6, b7⟩)
        · omega
        · have g3 := (hG.2 r2 b1 b2).2.1
          have e1 : r2 = r := by omega
          have e2 : d2 = d - 1 := by omega
          subst e1; subst e2
          exact ⟨a3, by omega, b5, b6⟩
    cases e1 : it2 lo hi r d <;> cases e2 : bt y (r * 4 + d - 1).toNat <;> simp_all
theorem an1 {z : Int} : tm_an z 1 = 1 ↔ bt z 0 = true := bt_sr1 (x := z) (y := 0)
theorem g_m90 {Q : ev_M → Prop} (hG : okG G) (hI : isM G M) (hs : 0 ≤ s ∧ s < 61) (hr : rep G k (aM_low M s.toNat) (aM_high M s.toNat)) (hm : mvd G k x y) (h : ∀ M' : ev_M, fr [14, 15] [] M M' → vld G (sM_newLow M') (sM_newHigh M') → knl G y (sM_newLow M') (sM_newHigh M') → (∀ r : Int, 0 ≤ r → r < gn G → it2 (sM_newLow M') (sM_newHigh M') r 0 = false) → Q M') : m90 s x M Q := by
  have gc := hG.1
  have key : ∀ t : Int, (t = 0 ∧ ¬ (x = 0 ∧ bt k 56 = true)) ∨ (t = 2 ∧ x = 0 ∧ bt k 56 = true) → c90_25 s x t M Q := by
    intro t ht
    refine b90_25 ?_
    have e2 : (2 : Int) = ((2 ^ 1 : Nat) : Int) := by decide
    have b0 : bt t 0 = false := by
      rcases ht with ht | ht
      · rw [ht.1, bt_zero]
      · rw [ht.1, e2, bt_pow]; rfl
    have hbits : ∀ j : Nat, bt t j = true → j = 1 := by
      intro j hj
      rcases ht with ht | ht
      · rw [ht.1, bt_zero] at hj; exact absurd hj (by decide)
      · rw [ht.1, e2, bt_pow] at hj; exact (of_decide_eq_true hj).symm
    have hst : mq G k x 0 0 t 0 := by
      refine ⟨⟨by omega, ⟨by omega, by omega⟩, fun j hj => Or.inr (Or.inl (hbits j hj)), fun j hj => ?_⟩, b0, ?_, fun r' d' a1 a2 a3 a4 => ?_⟩
      · rw [bt_zero] at hj; exact absurd hj (by decide)
      · rcases ht with ht | ht
        · rw [ht.1, bt_zero]
          exact ⟨fun h => absurd h (by decide), fun h => absurd h ht.2⟩
        · rw [ht.1, e2, bt_pow]
          exact ⟨fun _ => ht.2, fun _ => rfl⟩
      · refine ⟨fun hb => ?_, fun h => by omega⟩
        unfold it2 at hb
        by_cases e : 7 ≤ r'
        · rw [if_pos e, bt_zero] at hb; exact absurd hb (by decide)
        · rw [if_neg e] at hb
          have := hbits _ hb
          omega
    refine lp (σ := ev_M) (n := gn G) (c := fun r M1 => c90_35 s x r M1 Q) (P := fun r M1 => fr [14, 15] [] M M1 ∧ mq G k x r 0 (sM_newLow M1) (sM_newHigh M1)) ?_ ?_ (by omega) gc.1 ⟨(fr.refl.sS (by decide)).sS (by decide), hst⟩
    · intro r M1 r0 r1 hP ih
      have hg := hG.2 r r0 r1
      have e3 : sM_rules M1 = gn G := (hP.1.1 11 (by decide)).trans hI.1
      refine b90_35 ⟨fun g => absurd g (by rw [e3]; omega), fun _ => ?_⟩
      refine lp (σ := ev_M) (n := gz G r) (c := fun d M1 => c90_46 s x r d M1 Q) (P := fun d M1 => fr [14, 15] [] M M1 ∧ mq G k x r d (sM_newLow M1) (sM_newHigh M1)) ?_ ?_ (by omega) hg.2.1.1 hP
      · intro d M1 d0 d1 hP ih
        have hI1 : isM G M1 := hI.of (hP.1.1 11 (by decide)) (hP.1.2 31 (by decide)) (hP.1.2 32 (by decide)) (hP.1.2 33 (by decide))
        have el : aM_low M1 s.toNat = aM_low M s.toNat := congrFun (hP.1.2 35 (by decide)) _
        have eh : aM_high M1 s.toNat = aM_high M s.toNat := congrFun (hP.1.2 36 (by decide)) _
        have esz : aM_sizes M1 r.toNat = gz G r := (hI1.2 r r0 r1).2.1
        have esy : aM_right M1 (4 * r + d).toNat = gs G r d := (hI1.2 r r0 r1).2.2 d d0 d1
        have hith : it2 (aM_low M s.toNat) (aM_high M s.toNat) r d = true ↔ ith G k r d := by
          unfold ith
          by_cases e : d = 0
          · subst e
            rw [hr.2.2 r r0 r1]
            exact ⟨fun h => ⟨fun _ => h, fun h2 => absurd rfl h2⟩, fun h => h.1 rfl⟩
          · rw [hr.2.1.2.2 r d r0 r1 (by omega) (by omega)]
            exact ⟨fun h => ⟨fun h2 => absurd h2 e, fun _ => h⟩, fun h => h.2 e⟩
        have skip : ¬ (gs G r d = x ∧ ith G k r d) → c90_92 s x r d M1 Q := fun hn => b90_92 ⟨⟨by omega, by omega⟩, ih M1 ⟨hP.1, hP.2.skip hn⟩⟩
        refine b90_46 ⟨⟨r0, by omega⟩, fun g => absurd g (by rw [esz]; omega), fun _ => g_m89 hs ⟨r0, by omega⟩ ⟨d0, by omega⟩ (by rw [el]; exact hr.1.1) (by rw [eh]; exact hr.1.2.1) (fun hb => ⟨fun g => absurd g (by decide), fun _ => ⟨⟨by omega, by omega⟩, ⟨by omega, by omega⟩, ⟨by omega, by omega⟩, fun g => skip (fun hn => ?_), fun g => ⟨⟨by omega, by omega⟩, g_m86 ⟨r0, by omega⟩ ⟨by omega, by omega⟩ hP.2.1.1 hP.2.1.2.1 (b90_92 ⟨⟨by omega, by omega⟩, ih _ ⟨putM_fr hP.1 (by decide) (by decide), ?_⟩⟩)⟩⟩⟩) (fun hb => ⟨fun _ => skip (fun hn => ?_), fun g => absurd rfl g⟩)⟩
        · rw [esy] at g; exact g hn.1
        · rw [esy] at g
          rw [el, eh] at hb
          rw [putM_lo, putM_hi]
          exact hP.2.put hG r0 r1 d0 d1 (Decidable.of_not_not g) (hith.mp hb)
        · rw [el, eh, hith.mpr hn.2] at hb
          exact absurd hb (by decide)
      · intro M1 hP
        have esz : aM_sizes M1 r.toNat = gz G r := (congrFun (hP.1.2 32 (by decide)) _).trans (hI.2 r r0 r1).2.1
        refine b90_46 ⟨⟨r0, by omega⟩, fun _ => ⟨⟨by omega, by omega⟩, ih M1 ⟨hP.1, hP.2.next r0⟩⟩, fun g => absurd (by rw [esz]; omega) g⟩
    · intro M1 hP
      have e3 : sM_rules M1 = gn G := (hP.1.1 11 (by decide)).trans hI.1
      refine b90_35 ⟨fun _ => h M1 hP.1 hP.2.1 (hP.2.knl hG hm) (fun r r0 r1 => ?_), fun g => absurd (by rw [e3]; omega) g⟩
      refine Bool.eq_false_iff.mpr (fun hb => ?_)
      have := (hP.2.2.2.2 r 0 r0 r1 (by omega) (hG.2 r r0 r1).2.1.1).mp hb
      omega
  have hb0 := hr.2.1.1
  refine b90 ⟨fun g => b90_24 (key 0 (Or.inl ⟨rfl, fun h => g h.1⟩)), fun g => ⟨hs, hr.1.1, fun g2 => b90_24 (key 0 (Or.inl ⟨rfl, fun h => g2 (an1.mpr (by rw [hb0]; exact h.2))⟩)), fun g2 => key 2 (Or.inr ⟨rfl, Decidable.of_not_not g, ?_⟩)⟩⟩
  rw [← hb0]
  exact an1.mp (Decidable.of_not_not g2)
/-- the set is empty where its kernel is -/
theorem knl.zero {lo hi : Int} (hG : okG G) (hm : mvd G k x y) (hv : vld G lo hi) (hk : knl G y lo hi) (hz : ∀ r : Int, 0 ≤ r → r < gn G → it2 lo hi r 0 = false) : y = 0 ↔ (lo = 0 ∧ hi = 0) := by
  constructor
  · intro e
    subst e
    have i0 : ∀ r d : Int, 0 ≤ r → r < gn G → 0 ≤ d → d ≤ gz G r → it2 lo hi r d = false := by
      intro r d a1 a2 a3 a4
      by_cases e : d = 0
      · subst e; exact hz r a1 a2
      · rw [hk.2.2 r d a1 a2 (by omega) a4, bt_zero]
    refine ⟨bt_ext hv.1.1 (by omega) (fun j => ?_), bt_ext hv.2.1.1 (by omega) (fun j => ?_)⟩
    · rw [bt_zero]
      refine Bool.eq_false_iff.mpr (fun hb => ?_)
      rcases hv.2.2.1 j hb with e | e | ⟨r, d, a1, a2, a3, a4, a5, a6⟩
      · subst e; rw [hk.1, bt_zero] at hb; exact absurd hb (by decide)
      · subst e; rw [hk.2.1, bt_zero] at hb; exact absurd hb (by decide)
      · have := i0 r d a1 a2 a4 a5
        unfold it2 at this
        rw [if_neg (by omega), ← a6, hb] at this
        exact absurd this (by decide)
    · rw [bt_zero]
      refine Bool.eq_false_iff.mpr (fun hb => ?_)
      obtain ⟨r, d, a1, a2, a4, a5, a6⟩ := hv.2.2.2 j hb
      have := i0 r d (by omega) a2 a4 a5
      unfold it2 at this
      rw [if_pos a1, ← a6, hb] at this
      exact absurd this (by decide)
  · rintro ⟨e1, e2⟩
    subst e1; subst e2
    refine bt_ext hm.1 (by omega) (fun j => ?_)
    rw [bt_zero]
    refine Bool.eq_false_iff.mpr (fun hb => ?_)
    rcases (hm.ok hG).2.2 j hb with e | e | ⟨r, d, a1, a2, a3, a4, a5⟩
    · subst e; rw [← hk.1, bt_zero] at hb; exact absurd hb (by decide)
    · subst e; rw [← hk.2.1, bt_zero] at hb; exact absurd hb (by decide)
    · have := hk.2.2 r (d + 1) a1 a2 (by omega) (by omega)
      rw [show r * 4 + (d + 1) - 1 = r * 4 + d by omega, ← a5, hb] at this
      unfold it2 at this
      rw [bt_zero, bt_zero] at this
      split at this <;> exact absurd this (by decide)
end MV
