/-! The class's automaton: move -/
section CM
variable {G : gT} {M : ev_M} {q : Int}
/-- the row of makers awaited at q says what the closure of kernel k says -/
def awq (G : gT) (k a : Int) : Prop := (0 ≤ a ∧ a < 64) ∧ ∀ x : Int, 0 ≤ x → (bt a x.toNat = true ↔ awt G k x)
theorem hC_iff (hG : okG G) (hI : isC G M) {r d : Int} (ha : awq G (aA_kernel M q.toNat) (aA_awaited M q.toNat)) (r0 : 0 ≤ r) (r1 : r < gn G) : hC M q r d = true ↔ ith G (aA_kernel M q.toNat) r d := by
  have elf : aG_left M r.toNat = gl G r := (hI.2 r r0 r1).1
  unfold hC ith
  by_cases hd : d = 0
  · rw [if_pos hd, elf, ha.2 _ (hG.2 r r0 r1).1.1]
    exact ⟨fun h => ⟨fun _ => h, fun h2 => absurd hd h2⟩, fun h => h.1 hd⟩
  · rw [if_neg hd]
    exact ⟨fun h => ⟨fun h2 => absurd h2 hd, fun _ => h⟩, fun h => h.2 hd⟩
/-- what move has written before rule r, dot d -/
def mvp (G : gT) (k x r d y : Int) : Prop := (0 ≤ y ∧ y < 288230376151711744) ∧ ∀ j : Nat, bt y j = true ↔ ((j = 57 ∧ x = 0 ∧ bt k 56 = true) ∨ ∃ r' d' : Int, 0 ≤ r' ∧ (r' < r ∨ (r' = r ∧ d' < d)) ∧ 0 ≤ d' ∧ d' < gz G r' ∧ gs G r' d' = x ∧ ith G k r' d' ∧ j = (r' * 4 + d').toNat)
theorem mvp.skip {k x r d y : Int} (h : mvp G k x r d y) (hn : ¬ (gs G r d = x ∧ ith G k r d)) : mvp G k x r (d + 1) y := by
  refine ⟨h.1, fun j => (h.2 j).trans ⟨fun h => ?_, fun h => ?_⟩⟩
  · rcases h with h | ⟨r', d', a1, a2, a3⟩
    · exact Or.inl h
    · exact Or.inr ⟨r', d', a1, by omega, a3⟩
  · rcases h with h | ⟨r', d', a1, a2, a3, a4, a5, a6, a7⟩
    · exact Or.inl h
    · refine Or.inr ⟨r', d', a1, ?_, a3, a4, a5, a6, a7⟩
      by_cases e : r' = r ∧ d' = d
      · obtain ⟨e1, e2⟩ := e
        subst e1; subst e2
        exact absurd ⟨a5, a6⟩ hn
      · omega
theorem mvp.put {k x r d y : Int} (h : mvp G k x r d y) (r0 : 0 ≤ r ∧ r < 14) (d0 : 0 ≤ d ∧ d < 4) (hz : d < gz G r) (hs : gs G r d = x) (hi : ith G k r d) : mvp G k x r (d + 1) (tm_or y (tm_sl 1 (r * 4 + (d + 1) - 1))) := by
  refine ⟨or_rng (n := 58) h.1 (by omega), fun j => ?_⟩
  rw [bt_or, Bool.or_eq_true, decide_eq_true_iff, h.2 j]
  constructor
  · rintro ((h | ⟨r', d', a1, a2, a3⟩) | h)
    · exact Or.inl h
    · exact Or.inr ⟨r', d', a1, by omega, a3⟩
    · exact Or.inr ⟨r, d, r0.1, Or.inr ⟨rfl, by omega⟩, d0.1, hz, hs, hi, by omega⟩
  · rintro (h | ⟨r', d', a1, a2, a3, a4, a5, a6, a7⟩)
    · exact Or.inl (Or.inl h)
    · by_cases e : r' = r ∧ d' = d
      · obtain ⟨e1, e2⟩ := e
        subst e1; subst e2
        exact Or.inr (by omega)
      · exact Or.inl (Or.inr ⟨r', d', a1, by omega, a3, a4, a5, a6, a7⟩)
theorem mvp.next {k x r y : Int} (r0 : 0 ≤ r) (h : mvp G k x r (gz G r) y) : mvp G k x (r + 1) 0 y := by
  refine ⟨h.1, fun j => (h.2 j).trans ⟨fun h => ?_, fun h => ?_⟩⟩
  · rcases h with h | ⟨r', d', a1, a2, a3⟩
    · exact Or.inl h
    · exact Or.inr ⟨r', d', a1, by omega, a3⟩
  · rcases h with h | ⟨r', d', a1, a2, a3, a4, a5, a6, a7⟩
    · exact Or.inl h
    · refine Or.inr ⟨r', d', a1, ?_, a3, a4, a5, a6, a7⟩
      by_cases e : r' = r
      · subst e
        exact Or.inr ⟨rfl, a4⟩
      · omega
theorem mvp.mvd {k x y : Int} (h : mvp G k x (gn G) 0 y) : mvd G k x y := by
  refine ⟨h.1.1, fun j => (h.2 j).trans ⟨fun h => ?_, fun h => ?_⟩⟩
  · rcases h with h | ⟨r', d', a1, a2, a3⟩
    · exact Or.inl h
    · exact Or.inr ⟨r', d', a1, by omega, a3⟩
  · rcases h with h | ⟨r', d', a1, a2, a3⟩
    · exact Or.inl h
    · exact Or.inr ⟨r', d', a1, Or.inl a2, a3⟩
theorem g_m17 {Q : ev_M → Prop} (hG : okG G) (hI : isC G M) (hq : 0 ≤ q ∧ q < 60) (hk : kOK G (aA_kernel M q.toNat)) (ha : awq G (aA_kernel M q.toNat) (aA_awaited M q.toNat)) (h : ∀ M' : ev_M, fr [] [9] M M' → (∀ x : Int, 0 ≤ x → x < 10 → mvd G (aA_kernel M q.toNat) x (aA_moved M' x.toNat)) → Q M') : m17 q M Q := by
  have gc := hG.1
  have key : ∀ M1 : ev_M, fr [] [9] M M1 → (∀ x : Int, 0 ≤ x → x < 10 → mvp G (aA_kernel M q.toNat) x 0 0 (aA_moved M1 x.toNat)) → c17_30 q M1 Q := by
    intro M1 hf1 hm1
    refine b17_30 ?_
    refine lp (σ := ev_M) (n := gn G) (c := fun r M1 => c17_32 q r M1 Q) (P := fun r M1 => fr [] [9] M M1 ∧ ∀ x : Int, 0 ≤ x → x < 10 → mvp G (aA_kernel M q.toNat) x r 0 (aA_moved M1 x.toNat)) ?_ ?_ (by omega) gc.1 ⟨hf1, hm1⟩
    · intro r M1 r0 r1 hP ih
      have hr := hG.2 r r0 r1
      have e3 : sG_count M1 = gn G := (hP.1.1 3 (by decide)).trans hI.1
      refine b17_32 ⟨fun g => absurd g (by rw [e3]; omega), fun _ => ?_⟩
      refine lp (σ := ev_M) (n := gz G r) (c := fun d M1 => c17_45 q r d M1 Q) (P := fun d M1 => fr [] [9] M M1 ∧ ∀ x : Int, 0 ≤ x → x < 10 → mvp G (aA_kernel M q.toNat) x r d (aA_moved M1 x.toNat)) ?_ ?_ (by omega) hr.2.1.1 hP
      · intro d M1 d0 d1 hP ih
        have hI1 : isC G M1 := hI.of (hP.1.1 3 (by decide)) (hP.1.2 2 (by decide)) (hP.1.2 3 (by decide)) (hP.1.2 4 (by decide))
        have ek : aA_kernel M1 q.toNat = aA_kernel M q.toNat := congrFun (hP.1.2 6 (by decide)) _
        have ea : aA_awaited M1 q.toNat = aA_awaited M q.toNat := congrFun (hP.1.2 7 (by decide)) _
        have esz : aG_size M1 r.toNat = gz G r := (hI1.2 r r0 r1).2.1
        have esy : gR M1 r d = gs G r d := (hI1.2 r r0 r1).2.2 d d0 d1
        have elf : aG_left M1 r.toNat = gl G r := (hI1.2 r r0 r1).1
        have hsy := hr.2.2 d d0 d1
        have hh := hC_iff (M := M1) (q := q) (d := d) hG hI1 (by rw [ek, ea]; exact ha) r0 r1
        rw [ek] at hh
        refine b17_45 ⟨⟨r0, by omega⟩, fun g => absurd g (by rw [esz]; omega), fun _ => g_m15 hq ⟨r0, by omega⟩ ⟨d0, by omega⟩ ?_ ?_ ?_ (fun hb => ⟨fun g => absurd g (by decide), fun _ => g_m4 ⟨r0, by omega⟩ ⟨d0, by omega⟩ ?_⟩) (fun hb => ⟨fun _ => b17_92 ⟨⟨by omega, by omega⟩, ih M1 ⟨hP.1, fun x x0 x1 => (hP.2 x x0 x1).skip ?_⟩⟩, fun g => absurd rfl g⟩)⟩
        · rw [ek]; exact ⟨hk.1.1, by have := hk.1.2; omega⟩
        · rw [ea]; exact ha.1
        · rw [elf]; exact hr.1
        · rw [esy]
          refine ⟨hsy, ⟨by omega, by omega⟩, g_m14 ⟨r0, by omega⟩ ⟨by omega, by omega⟩ ⟨?_, sl_rng (n := 63) (by omega), hsy, b17_92 ⟨⟨by omega, by omega⟩, ih _ ⟨hP.1.sA (by decide), fun x x0 x1 => ?_⟩⟩⟩⟩
          · have := (hP.2 _ hsy.1 hsy.2).1
            omega
          · have hx := hP.2 x x0 x1
            by_cases e : x = gs G r d
            · subst e
              show mvp G _ _ r (d + 1) ((ev_sA M1 9 (gs G r d).toNat _).2 9 (gs G r d).toNat)
              rw [sA_same]
              exact hx.put ⟨r0, by omega⟩ ⟨d0, by omega⟩ d1 rfl (hh.mp hb)
            · show mvp G _ _ r (d + 1) ((ev_sA M1 9 (gs G r d).toNat _).2 9 x.toNat)
              rw [sA_ne (by omega)]
              exact hx.skip (fun hn => e hn.1.symm)
        · rintro ⟨-, hn⟩
          rw [hh.mpr hn] at hb
          exact absurd hb (by decide)
      · intro M1 hP
        have esz : aG_size M1 r.toNat = gz G r := (congrFun (hP.1.2 3 (by decide)) _).trans (hI.2 r r0 r1).2.1
        refine b17_45 ⟨⟨r0, by omega⟩, fun _ => ⟨⟨by omega, by omega⟩, ih M1 ⟨hP.1, fun x x0 x1 => (hP.2 x x0 x1).next r0⟩⟩, fun g => absurd (by rw [esz]; omega) g⟩
    · intro M1 hP
      have e3 : sG_count M1 = gn G := (hP.1.1 3 (by decide)).trans hI.1
      exact b17_32 ⟨fun _ => h M1 hP.1 (fun x x0 x1 => (hP.2 x x0 x1).mvd), fun g => absurd (by rw [e3]; omega) g⟩
  have hf : fr [] [9] M (ev_fl M 9 10 0) := ⟨fun _ _ => rfl, fun c hc => if_neg (fun e => hc (by rw [e]; decide))⟩
  have hz : ∀ x : Int, 0 ≤ x → x < 10 → aA_moved (ev_fl M 9 10 0) x.toNat = 0 := by
    intro x x0 x1
    show (if 9 = 9 then (fun j => if j < 10 then 0 else M.2 9 j) else M.2 9) x.toNat = 0
    rw [if_pos rfl]
    exact if_pos (by omega)
  have none : ∀ (x : Int) (j : Nat), ¬ ∃ r' d' : Int, 0 ≤ r' ∧ (r' < 0 ∨ (r' = 0 ∧ d' < 0)) ∧ 0 ≤ d' ∧ d' < gz G r' ∧ gs G r' d' = x ∧ ith G (aA_kernel M q.toNat) r' d' ∧ j = (r' * 4 + d').toNat := by
    rintro x j ⟨r', d', a1, a2, a3, -⟩
    omega
  refine b17 (m2_fill (n := 10) (by decide) (fun _ => rfl) (fun _ _ _ => rfl) ⟨hq, fun g => key _ hf (fun x x0 x1 => ?_), fun g => key _ (hf.sA (by decide)) (fun x x0 x1 => ?_)⟩)
  · rw [hz x x0 x1]
    refine ⟨⟨by omega, by omega⟩, fun j => ?_⟩
    rw [bt_zero]
    refine ⟨fun h => absurd h (by decide), fun h => ?_⟩
    rcases h with h | h
    · exact absurd (hk.2.1.mp h.2.2) g
    · exact absurd h (none x j)
  · by_cases e : x = 0
    · subst e
      show mvp G _ _ 0 0 ((ev_sA _ 9 0 144115188075855872).2 9 0)
      rw [sA_same]
      refine ⟨⟨by omega, by omega⟩, fun j => ?_⟩
      have e : (144115188075855872 : Int) = ((2 ^ 57 : Nat) : Int) := by decide
      rw [e, bt_pow, decide_eq_true_iff]
      constructor
      · intro hj
        exact Or.inl ⟨hj.symm, rfl, hk.2.1.mpr (Decidable.of_not_not g)⟩
      · rintro (h | h)
        · exact h.1.symm
        · exact absurd h (none _ j)
    · show mvp G _ _ 0 0 ((ev_sA _ 9 0 144115188075855872).2 9 x.toNat)
      rw [sA_ne (by omega)]
      show mvp G _ _ 0 0 (aA_moved (ev_fl M 9 10 0) x.toNat)
      rw [hz x x0 x1]
      refine ⟨⟨by omega, by omega⟩, fun j => ?_⟩
      rw [bt_zero]
      refine ⟨fun h => absurd h (by decide), fun h => ?_⟩
      rcases h with h | h
      · exact absurd h.2.1 e
      · exact absurd h (none x j)
end CM
