/-! The empty grammar: clear and the beginning -/
def gZ : gT := (0, fun _ => 0, fun _ => 0, fun _ _ => 0)
theorem okG_Z : okG gZ := ⟨⟨by show (0 : Int) ≤ 0; omega, by show (0 : Int) ≤ 14; omega⟩, fun r r0 r1 => absurd (show r < 0 from r1) (by omega)⟩
theorem auE_Z : auE gZ 2 (fun q => if q = 0 then 72057594037927936 else 144115188075855872) (fun j => if j = 0 then 1 else -1) := by
  have e56 : (72057594037927936 : Int) = ((2 ^ 56 : Nat) : Int) := by decide
  have e57 : (144115188075855872 : Int) = ((2 ^ 57 : Nat) : Int) := by decide
  have mv : ∀ k x y : Int, 0 ≤ y → (∀ j : Nat, bt y j = true ↔ (j = 57 ∧ x = 0 ∧ bt k 56 = true)) → mvd gZ k x y := by
    intro k x y hy h
    refine ⟨hy, fun j => (h j).trans ⟨fun h => Or.inl h, fun h => ?_⟩⟩
    rcases h with h | ⟨r, d, r0, r1, -⟩
    · exact h
    · exact absurd (show r < 0 from r1) (by omega)
  have m0 : mvd gZ 72057594037927936 0 144115188075855872 := by
    refine mv _ _ _ (by omega) (fun j => ?_)
    rw [e57, bt_pow, decide_eq_true_iff]
    exact ⟨fun h => ⟨h.symm, rfl, by decide⟩, fun h => h.1.symm⟩
  have mz : ∀ k x : Int, ¬ (x = 0 ∧ bt k 56 = true) → mvd gZ k x 0 := by
    intro k x hn
    refine mv _ _ _ (by omega) (fun j => ?_)
    rw [bt_zero]
    exact ⟨fun h => absurd h (by decide), fun h => absurd h.2 hn⟩
  obtain ⟨K, hK0, hK1⟩ : ∃ K : Int → Int, K 0 = 72057594037927936 ∧ K 1 = 144115188075855872 ∧ K = fun q => if q = 0 then 72057594037927936 else 144115188075855872 := ⟨_, rfl, rfl, rfl⟩
  obtain ⟨go, hg0, hg1⟩ : ∃ go : Int → Int, go 0 = 1 ∧ (∀ j : Int, j ≠ 0 → go j = -1) ∧ go = fun j => if j = 0 then 1 else -1 := ⟨_, rfl, fun j hj => if_neg hj, rfl⟩
  obtain ⟨cn, hc0, hc1⟩ : ∃ cn : Int → Int, cn 0 = 1 ∧ ∀ j : Int, j ≠ 0 → cn j = 2 := ⟨fun j => if j = 0 then 1 else 2, rfl, fun j hj => if_neg hj⟩
  rw [← hK1.2, ← hg1.2]
  refine ⟨cn, ⟨⟨hc0, hK0⟩, fun j j0 j1 => ?_, fun q q0 q1 => ?_, fun j j0 j1 => ?_⟩, ?_, by omega, by omega⟩
  · rw [hc1 (10 * 2) (by omega)]
    by_cases e : j = 0
    · rw [e, hc0]; omega
    · rw [hc1 j e]; omega
  · rw [hc1 (10 * 2) (by omega)] at q1
    rcases (by omega : q = 0 ∨ q = 1) with rfl | rfl
    · rw [hK0]; exact kOK0
    · rw [hK1.1]; exact m0.ok okG_Z
  · unfold auS
    rw [hc1 (j + 1) (by omega)]
    by_cases e : j = 0
    · subst e
      rw [hc0, hg0]
      refine ⟨⟨by omega, by omega, by omega⟩, 144115188075855872, by rw [show (0 : Int) / 10 = 0 by omega, show (0 : Int) % 10 = 0 by omega, hK0]; exact m0, Or.inr ⟨by omega, ⟨by omega, by omega⟩, hK1.1, fun p p0 p1 => ?_, by rw [if_pos rfl]; rfl⟩⟩
      have e : p = 0 := by omega
      rw [e, hK0]; omega
    · rw [hc1 j e, hg1.1 j e]
      refine ⟨⟨by omega, by omega, by omega⟩, 0, mz _ _ ?_, Or.inl ⟨rfl, rfl, rfl⟩⟩
      rintro ⟨x0, hb⟩
      rcases (by omega : j / 10 = 0 ∨ j / 10 = 1) with h | h
      · omega
      · rw [h, hK1.1] at hb
        exact absurd hb (by decide)
  · exact hc1 _ (by omega)
section CL
variable {M : ev_M} {R : ev_M → Prop}
theorem isC_Z (h : sG_count M = 0) : isC gZ M := ⟨h, fun r r0 r1 => absurd (show r < 0 from r1) (by omega)⟩
theorem isM_Z (h : sM_rules M = 0) : isM gZ M := ⟨h, fun r r0 r1 => absurd (show r < 0 from r1) (by omega)⟩
/-- both builds over the empty grammar -/
theorem st_clear (hc : sM_rules M = sG_count M) (h : ∀ M2 : ev_M, AUT gZ M2 → fr (0 :: 1 :: 2 :: 3 :: 5 :: 11 :: 12 :: rlS) rlA M M2 → M2.1 0 = 0 → M2.1 1 = 0 → M2.1 2 = 0 → M2.1 5 = 0 → M2.1 12 = 0 → sM_known M2 = 0 → R M2) : m67 M (fun w M1 => m100 M1 (fun w' M2 => w = w' ∧ R M2)) := by
  refine b67 (g_m19 okG_Z (isC_Z rfl) (fun N hfN hEN hwN => b63 ?_) (fun N _ hF => absurd (auE_Z.notF hF) id))
  have e11 : N.1 11 = M.1 11 := hfN.1 11 (by decide)
  refine b100 (g_m91 okG_Z (isM_Z rfl) hEN (fun M2 hf2 hk2 hs2 hr2 hw2 => ⟨hc.symm.trans e11.symm, ?_⟩))
  refine h M2 (AUT.mk (N := N) okG_Z (isC_Z ((hf2.1 3 (by decide)).trans (hfN.1 3 (by decide)))) (isM_Z (hf2.1 11 (by decide))) (hf2.1 4 (by decide)) (hf2.2 6 (by decide)) (hf2.2 7 (by decide)) (hf2.2 8 (by decide)) hEN hwN hs2 hr2 hw2) ?_ (hf2.1 0 (by decide)) (hf2.1 1 (by decide)) (hf2.1 2 (by decide)) ((hf2.1 5 (by decide)).trans (hfN.1 5 (by decide))) (hf2.1 12 (by decide)) hk2
  have g0 : fr (0 :: 1 :: 2 :: 3 :: 5 :: 11 :: 12 :: rlS) rlA M (ev_sS (ev_sS M 3 0) 5 0) := (fr.refl.sS (by decide)).sS (by decide)
  have g1 := g0.trans (hfN.mono (by decide) (by decide))
  have g2 : fr (0 :: 1 :: 2 :: 3 :: 5 :: 11 :: 12 :: rlS) rlA M (ev_sS (ev_sS (ev_sS (ev_sS (ev_sS N 0 0) 1 0) 2 0) 11 0) 12 0) := ((((g1.sS (by decide)).sS (by decide)).sS (by decide)).sS (by decide)).sS (by decide)
  exact g2.trans (hf2.mono (by decide) (by decide))
end CL
