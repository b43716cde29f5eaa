/-! The model: findUsed -/
section FU
variable {G : gT} {n : Int} {w : Int → Int} {T : Int → Int → Int → Bool} {M M' : ev_M}
def msD (M : ev_M) : Nat := cntB (fun k => decide (aM_done M k = 1)) 726
def dR (M : ev_M) : Prop := ∀ k : Nat, k < 726 → aM_done M k = 0 ∨ aM_done M k = 1
/-- what findUsed keeps -/
def uinv (G : gT) (n : Int) (T : Int → Int → Int → Bool) (M M1 : ev_M) : Prop := fr itS0 [40, 41, 42] M M1 ∧ uR M1 ∧ dR M1 ∧ (∀ k : Nat, k < 726 → aM_counts M1 k = 0) ∧ (∀ m i j : Int, us M1 m i j → usd G n T m i j) ∧ (T 0 0 n = true → us M1 0 0 n) ∧ (∀ k : Nat, k < 726 → aM_done M1 k = 1 → aM_used M1 k = 1) ∧ ∀ m i j : Int, us M1 m i j → aM_done M1 (121 * m + 11 * i + j).toNat = 1 → ∀ x p q : Int, kid G T m i j x p q → us M1 x p q
theorem g_m115 {Q : ev_M → Prop} (hG : okG G) (hT : okT n w) (hM : isM G M) (hY : isY n w M) (hP : PAR G n w M) (hD : isD G n w T) (h : ∀ M' : ev_M, fr itS0 [40, 41, 42] M M' → USE G n T M' → (∀ k : Nat, k < 726 → aM_counts M' k = 0) → Q M') : m115 M Q := by
  have hn := hT.1
  have gc := hG.1
  have rounds : ∀ (k : Nat) (M1 : ev_M), 726 - msD M1 < k → uinv G n T M M1 → c115_57 1 M1 Q := by
    intro k
    induction k with
    | zero => intro M1 hk; omega
    | succ k ihk =>
      intro M1 hk hv
      have hms : msD M1 ≤ 726 := cntB_le
      refine b115_57 ⟨fun g => absurd g (by decide), fun _ => ?_⟩
      refine lp (σ := Int × ev_M) (n := 726) (c := fun nd s => c115_65 s.1 nd s.2 Q) (P := fun nd s => uinv G n T M s.2 ∧ ((s.1 = 0 ∧ s.2 = M1 ∧ ∀ q : Nat, (q : Int) < nd → aM_used M1 q = 0 ∨ aM_done M1 q = 1) ∨ (s.1 = 1 ∧ msD M1 < msD s.2))) ?_ ?_ (r := 0) (s := (0, M1)) (by omega) (by omega) ⟨hv, Or.inl ⟨rfl, rfl, fun q hq => by omega⟩⟩
      · rintro nd ⟨g, M2⟩ d0 d1 ⟨hv2, hg2⟩ ih
        dsimp only at hv2 hg2 ih ⊢
        obtain ⟨hf2, hu2, hd2, hc2, hs2, hr2, hdu2, hk2⟩ := hv2
        have skip : (aM_used M2 nd.toNat = 0 ∨ aM_done M2 nd.toNat = 1) → c115_104 g nd M2 Q := by
          intro hx
          refine b115_104 ⟨⟨by omega, by omega⟩, ih (g, M2) ⟨⟨hf2, hu2, hd2, hc2, hs2, hr2, hdu2, hk2⟩, ?_⟩⟩
          rcases hg2 with ⟨g0, eM, hq⟩ | hg2
          · refine Or.inl ⟨g0, eM, fun q hlt => ?_⟩
            by_cases e : q = nd.toNat
            · rw [e, ← eM]; exact hx
            · exact hq q (by omega)
          · exact Or.inr hg2
        refine b115_65 ⟨fun g => absurd g (by omega), fun _ => ⟨⟨d0, d1⟩, fun hu0 => skip (Or.inl hu0), fun hu1 => ⟨⟨d0, d1⟩, fun hd1 => skip (Or.inr ?_), fun hd0 => ⟨⟨d0, d1⟩, ?_⟩⟩⟩⟩
        · rcases hd2 nd.toNat (by omega) with e | e
          · exact absurd e hd1
          · exact e
        · have hu1' : aM_used M2 nd.toNat = 1 := by
            rcases hu2 nd.toNat (by omega) with e | e
            · exact absurd e hu1
            · exact e
          have hd0' : aM_done M2 nd.toNat = 0 := Decidable.of_not_not hd0
          obtain ⟨m, i, j, hm, hi, hj, end_⟩ : ∃ m i j : Int, (0 ≤ m ∧ m < 6) ∧ (0 ≤ i ∧ i ≤ 10) ∧ (0 ≤ j ∧ j ≤ 10) ∧ nd = 121 * m + 11 * i + j := ⟨nd / 121, nd / 11 % 11, nd % 11, by omega, by omega, by omega, by omega⟩
          have hus : us M2 m i j := ⟨hm, hi, hj, by rw [← end_]; exact hu1'⟩
          have hud := hs2 m i j hus
          have hrg := hud.rng hG hT hD
          have hM3 : isM G (ev_sA M2 41 nd.toNat 1) := hM.of (hf2.1 11 (by decide)) (hf2.2 31 (by decide)) (hf2.2 32 (by decide)) (hf2.2 33 (by decide))
          have hP3 : PAR G n w (ev_sA M2 41 nd.toNat 1) := hP.of (hf2.2 39 (by decide))
          refine g_m114 (m := m) (i := i) (j := j) hG hT hM3 hP3 hD hm hrg.2.1 end_ hu2 (fun M3 hf3 hu3 hmo hki hso => b115_104 ⟨⟨by omega, by omega⟩, ih (1, M3) ⟨⟨?_, hu3, ?_, ?_, ?_, ?_, ?_, ?_⟩, Or.inr ⟨rfl, ?_⟩⟩⟩)
          · exact (hf2.sA (by decide)).trans (hf3.mono (by decide) (by decide))
          · intro q hq
            show M3.2 41 q = 0 ∨ M3.2 41 q = 1
            rw [hf3.2 41 (by decide)]
            by_cases e : q = nd.toNat
            · rw [e, sA_same]; exact Or.inr rfl
            · rw [sA_ne e]; exact hd2 q hq
          · intro q hq
            show M3.2 42 q = 0
            rw [hf3.2 42 (by decide)]
            exact hc2 q hq
          · intro x p q hx
            rcases hso x p q hx with h1 | h1
            · exact hs2 x p q h1
            · exact hud.kid h1
          · intro hroot
            exact hmo _ _ _ (hr2 hroot)
          · intro q hq hdn
            have hdn' : (ev_sA M2 41 nd.toNat 1).2 41 q = 1 := by
              rw [← hf3.2 41 (by decide)]; exact hdn
            have hu' : aM_used M2 q = 1 := by
              by_cases e : q = nd.toNat
              · rw [e]; exact hu1'
              · rw [sA_ne e] at hdn'; exact hdu2 q hq hdn'
            obtain ⟨m', i', j', a1, a2, a3, a4⟩ : ∃ m i j : Int, (0 ≤ m ∧ m < 6) ∧ (0 ≤ i ∧ i ≤ 10) ∧ (0 ≤ j ∧ j ≤ 10) ∧ (q : Int) = 121 * m + 11 * i + j := ⟨(q : Int) / 121, (q : Int) / 11 % 11, (q : Int) % 11, by omega, by omega, by omega, by omega⟩
            have eq : (121 * m' + 11 * i' + j').toNat = q := by omega
            have := (hmo m' i' j' ⟨a1, a2, a3, by rw [eq]; exact hu'⟩).2.2.2
            rw [eq] at this
            exact this
          · intro m' i' j' hu' hdn x p q hkd
            have hdn' : (ev_sA M2 41 nd.toNat 1).2 41 (121 * m' + 11 * i' + j').toNat = 1 := by
              rw [← hf3.2 41 (by decide)]; exact hdn
            by_cases e : (121 * m' + 11 * i' + j').toNat = nd.toNat
            · have b1 := hu'.1; have b2 := hu'.2.1; have b3 := hu'.2.2.1
              have e1 : m' = m := by omega
              have e2 : i' = i := by omega
              have e3 : j' = j := by omega
              rw [e1, e2, e3] at hkd
              exact hki x p q hkd
            · rw [sA_ne e] at hdn'
              have b1 := hu'.1; have b2 := hu'.2.1; have b3 := hu'.2.2.1
              exact hmo _ _ _ (hk2 m' i' j' ⟨b1, b2, b3, hdu2 _ (by omega) hdn'⟩ hdn' x p q hkd)
          · have h1 : msD M1 ≤ msD M2 := by
              rcases hg2 with ⟨-, eM, -⟩ | ⟨-, hlt⟩
              · rw [eM]; exact Nat.le_refl _
              · omega
            have h2 : msD M2 < msD M3 := by
              refine cntB_lt (k := nd.toNat) (fun q hq hb => decide_eq_true ?_) (by omega) (decide_eq_false (by omega)) (decide_eq_true ?_)
              · show M3.2 41 q = 1
                rw [hf3.2 41 (by decide)]
                by_cases e : q = nd.toNat
                · rw [e, sA_same]
                · rw [sA_ne e]; exact of_decide_eq_true hb
              · show M3.2 41 nd.toNat = 1
                rw [hf3.2 41 (by decide), sA_same]
            show msD M1 < msD M3
            omega
      · rintro ⟨g, M2⟩ ⟨hv2, hg2⟩
        dsimp only at hv2 hg2 ⊢
        refine b115_65 ⟨fun _ => ?_, fun g => absurd (by omega) g⟩
        rcases hg2 with ⟨g0, eM, hq⟩ | ⟨g1, hlt⟩
        · subst g0; subst eM
          obtain ⟨hf2, hu2, hd2, hc2, hs2, hr2, hdu2, hk2⟩ := hv2
          refine b115_57 ⟨fun _ => h M2 hf2 ⟨hu2, fun m i j => ⟨hs2 m i j, fun hud => ?_⟩⟩ hc2, fun g => absurd rfl g⟩
          refine hud (us M2) hr2 (fun m i j x p q hus hkd => ?_)
          refine hk2 m i j hus ?_ x p q hkd
          rcases hq (121 * m + 11 * i + j).toNat (by have := hus.1; have := hus.2.1; have := hus.2.2.1; omega) with e | e
          · have := hus.2.2.2; omega
          · exact e
        · subst g1
          have h2 : msD M2 ≤ 726 := cntB_le
          exact ihk M2 (by omega) hv2
  refine b115 ?_
  refine lp (σ := ev_M) (n := 726) (c := fun k M1 => c115_2 k M1 Q) (P := fun k M1 => fr itS0 [40, 41, 42] M M1 ∧ ∀ q : Nat, (q : Int) < k → aM_used M1 q = 0 ∧ aM_done M1 q = 0 ∧ aM_counts M1 q = 0) ?_ ?_ (by omega) (by omega) ⟨fr.refl, fun q hq => by omega⟩
  · rintro k M1 k0 k1 ⟨hf, hz⟩ ih
    refine b115_2 ⟨fun g => absurd g (by omega), fun _ => ⟨⟨k0, k1⟩, ⟨k0, k1⟩, ⟨k0, k1⟩, ⟨by omega, by omega⟩, ih _ ⟨((hf.sA (by decide)).sA (by decide)).sA (by decide), fun q hq => ?_⟩⟩⟩
    show (ev_sA M1 40 k.toNat 0).2 40 q = 0 ∧ (ev_sA (ev_sA M1 40 k.toNat 0) 41 k.toNat 0).2 41 q = 0 ∧ (ev_sA (ev_sA (ev_sA M1 40 k.toNat 0) 41 k.toNat 0) 42 k.toNat 0).2 42 q = 0
    by_cases e : q = k.toNat
    · rw [e, sA_same, sA_same, sA_same]; exact ⟨rfl, rfl, rfl⟩
    · rw [sA_ne e, sA_ne e, sA_ne e]
      exact hz q (by omega)
  · rintro M1 ⟨hf, hz⟩
    have e12 : sM_length M1 = n := (hf.1 12 (by decide)).trans hY.1
    have hP1 : PAR G n w M1 := hP.of (hf.2 39 (by decide))
    have fin : ∀ v : Int, ((v = 1 ∧ T 0 0 n = true) ∨ (v = 0 ∧ ¬ T 0 0 n = true)) → c115_57 1 (ev_sA M1 40 n.toNat v) Q := by
      intro v hv
      refine rounds 727 _ (by omega) ⟨hf.sA (by decide), fun q hq => ?_, fun q hq => Or.inl (hz q (by omega)).2.1, fun q hq => (hz q (by omega)).2.2, fun m i j hus => ?_, fun hr => ?_, fun q hq hdn => absurd ((hz q (by omega)).2.1.symm.trans hdn) (by decide), fun m i j hus hdn => ?_⟩
      · show (ev_sA M1 40 n.toNat v).2 40 q = 0 ∨ (ev_sA M1 40 n.toNat v).2 40 q = 1
        by_cases e : q = n.toNat
        · rw [e, sA_same]; omega
        · rw [sA_ne e]; exact Or.inl (hz q (by omega)).1
      · obtain ⟨b1, b2, b3, b4⟩ := hus
        have b4' : (ev_sA M1 40 n.toNat v).2 40 (121 * m + 11 * i + j).toNat = 1 := b4
        by_cases e : (121 * m + 11 * i + j).toNat = n.toNat
        · rw [e, sA_same] at b4'
          have e1 : m = 0 := by omega
          have e2 : i = 0 := by omega
          have e3 : j = n := by omega
          rw [e1, e2, e3]
          rcases hv with hv | hv
          · exact usd.root hv.2
          · omega
        · rw [sA_ne e] at b4'
          have := (hz (121 * m + 11 * i + j).toNat (by omega)).1
          exact absurd (this.symm.trans b4') (by decide)
      · refine ⟨by omega, by omega, by omega, ?_⟩
        show (ev_sA M1 40 n.toNat v).2 40 (121 * 0 + 11 * 0 + n).toNat = 1
        rw [show (121 * 0 + 11 * 0 + n).toNat = n.toNat by omega, sA_same]
        rcases hv with hv | hv
        · exact hv.1
        · exact absurd hr hv.2
      · have b1 := hus.1; have b2 := hus.2.1; have b3 := hus.2.2.1
        have := (hz (121 * m + 11 * i + j).toNat (by omega)).2.1
        exact absurd (this.symm.trans hdn) (by decide)
    refine b115_2 ⟨fun _ => ?_, fun g => absurd (by omega) g⟩
    rw [e12]
    have hb := (hP1.2 0 0 n).trans (hD 0 0 n).symm
    refine g_m101 hP1.1 (by omega) (by omega) (by omega) (fun ht => ⟨⟨hn.1, by omega⟩, Or.inr rfl, fin 1 (Or.inl ⟨rfl, hb.mp ht⟩)⟩) (fun ht => ⟨⟨hn.1, by omega⟩, Or.inl rfl, fin 0 (Or.inr ⟨rfl, fun h => ht (hb.mpr h)⟩)⟩)
end FU
