/-! The model's build -/
section MB
variable {G : gT} {M M' : ev_M} {k x y s : Int} {Q : Int → ev_M → Prop} {K go cn : Int → Int}
/-- one position of the build up to keep -/
theorem pre91 (hG : okG G) (hI : isM G M) (hs : 0 ≤ s ∧ s < 60) (hx : 0 ≤ x ∧ x < 10) (h60 : sM_states M ≤ 60) (hr : rep G k (aM_low M s.toNat) (aM_high M s.toNat)) (hm : mvd G k x y)
    (hz : y = 0 → ∀ M1 : ev_M, fr [14, 15] [37] M M1 → (∀ j : Int, 0 ≤ j → j ≠ 10 * s + x → aM_ways M1 j.toNat = aM_ways M j.toNat) → aM_ways M1 (10 * s + x).toNat = -1 → c91_115 s x M1 Q)
    (hn : y ≠ 0 → ∀ M1 : ev_M, fr [14, 15] [37] M M1 → (∀ j : Int, 0 ≤ j → j ≠ 10 * s + x → aM_ways M1 j.toNat = aM_ways M j.toNat) → rep G y (sM_newLow M1) (sM_newHigh M1) → m88 M1 (fun w M2 => c91_115 s x (ev_sA M2 37 (10 * s + x).toNat w) Q)) : c91_45 s x M Q := by
  refine b91_45 ⟨fun g => absurd g (by omega), fun _ => ⟨fun g => absurd g (by omega), fun _ => g_m90 hG hI ⟨hs.1, by omega⟩ hr hm (fun M1 hf hv hk hz0 => ⟨⟨by omega, by omega⟩, ⟨by omega, by omega⟩, ⟨by omega, by omega⟩, ?_⟩)⟩⟩
  have hy := knl.zero hG hm hv hk hz0
  have hf1 : fr [14, 15] [37] M (ev_sA M1 37 (10 * s + x).toNat (-1)) := (hf.mono (by decide) (by decide)).sA (by decide)
  have hw : ∀ j : Int, 0 ≤ j → j ≠ 10 * s + x → aM_ways (ev_sA M1 37 (10 * s + x).toNat (-1)) j.toNat = aM_ways M j.toNat := by
    intro j j0 hj
    show (ev_sA M1 37 (10 * s + x).toNat (-1)).2 37 j.toNat = _
    rw [sA_ne (by omega)]
    exact congrFun (hf.2 37 (by decide)) _
  have on : y ≠ 0 → c91_96 s x (ev_sA M1 37 (10 * s + x).toNat (-1)) Q := by
    intro hne
    have hI2 : isM G (ev_sA M1 37 (10 * s + x).toNat (-1)) := hI.of (hf1.1 11 (by decide)) (hf1.2 31 (by decide)) (hf1.2 32 (by decide)) (hf1.2 33 (by decide))
    refine b91_96 (g_m87 hG hI2 hv hk hz0 (fun M2 hf2 hrep => ⟨⟨by omega, by omega⟩, ⟨by omega, by omega⟩, ?_⟩))
    have h2 := hn hne M2 (hf1.trans (hf2.mono (by decide) (by decide))) (fun j j0 hj => (congrFun (hf2.2 37 (by decide)) _).trans (hw j j0 hj)) hrep
    have imp : (fun w M2 => c91_115 s x (ev_sA M2 37 (10 * s + x).toNat w) Q) = (fun w M2 => (0 ≤ ((10 * s) + x) ∧ ((10 * s) + x) < 610) ∧ c91_115 s x (ev_sA M2 37 ((10 * s) + x).toNat w) Q) := by
      funext w M2
      exact propext ⟨fun h => ⟨⟨by omega, by omega⟩, h⟩, fun h => h.2⟩
    rw [imp] at h2
    exact h2
  refine ⟨fun g => on (fun e => g (hy.mp e).1), fun g => ⟨fun g2 => ?_, fun g2 => on (fun e => g2 (hy.mp e).2)⟩⟩
  refine hz (hy.mpr ⟨Decidable.of_not_not g, g2⟩) _ hf1 hw ?_
  show (ev_sA M1 37 (10 * s + x).toNat (-1)).2 37 (10 * s + x).toNat = -1
  exact sA_same
/-- the model's memory in the midst of the build -/
def mJ (G : gT) (M : ev_M) (K go cn : Int → Int) (j : Int) (M' : ev_M) : Prop := fr [13, 14, 15] [35, 36, 37] M M' ∧ sM_states M' = cn j ∧ (∀ q : Int, 0 ≤ q → q < cn j → kOK G (K q) ∧ rep G (K q) (aM_low M' q.toNat) (aM_high M' q.toNat)) ∧ ∀ i : Int, 0 ≤ i → i < j → aM_ways M' i.toNat = go i
/-- one position of the build -/
theorem st91 (hG : okG G) (hI : isM G M) (hs : 0 ≤ s) (hx : 0 ≤ x ∧ x < 10) (hS : auS G (10 * s + x) K go cn) (hJ : mJ G M K go cn (10 * s + x) M') (ih : ∀ M2 : ev_M, mJ G M K go cn (10 * s + (x + 1)) M2 → c91_45 s (x + 1) M2 Q) : c91_45 s x M' Q := by
  obtain ⟨hf, hc, hrep, hw⟩ := hJ
  obtain ⟨⟨c1, c2, c3⟩, y, hm, hcase⟩ := hS
  rw [show (10 * s + x) / 10 = s by omega] at c2 hm
  rw [show (10 * s + x) % 10 = x by omega] at hm
  have hI1 : isM G M' := hI.of (hf.1 11 (by decide)) (hf.2 31 (by decide)) (hf.2 32 (by decide)) (hf.2 33 (by decide))
  rw [show 10 * s + (x + 1) = 10 * s + x + 1 by omega] at ih
  refine pre91 hG hI1 ⟨hs, by omega⟩ hx (by omega) (hrep s hs c2).2 hm (fun hy M1 hf1 hw1 hw2 => ?_) (fun hy M1 hf1 hw1 hr1 => ?_)
  · refine b91_115 ⟨⟨by omega, by omega⟩, ih M1 ⟨hf.trans (hf1.mono (by decide) (by decide)), ?_, ?_, ?_⟩⟩
    · rcases hcase with ⟨-, -, e⟩ | ⟨e, -⟩
      · rw [e]; exact (hf1.1 13 (by decide)).trans hc
      · exact absurd hy e
    · rcases hcase with ⟨-, -, e⟩ | ⟨e, -⟩
      · rw [e]
        intro q q0 q1
        show kOK G (K q) ∧ rep G (K q) (M1.2 35 q.toNat) (M1.2 36 q.toNat)
        rw [hf1.2 35 (by decide), hf1.2 36 (by decide)]
        exact hrep q q0 q1
      · exact absurd hy e
    · intro i i0 i1
      by_cases e : i = 10 * s + x
      · rw [e, hw2]
        rcases hcase with ⟨-, e2, -⟩ | ⟨e, -⟩
        · exact e2.symm
        · exact absurd hy e
      · rw [hw1 i i0 e]; exact hw i i0 (by omega)
  · rcases hcase with ⟨e, -⟩ | ⟨-, ht, hK, hfirst, hcn⟩
    · exact absurd e hy
    have e13 : sM_states M1 = cn (10 * s + x) := (hf1.1 13 (by decide)).trans hc
    have e35 : ∀ q, aM_low M1 q = aM_low M' q := fun q => congrFun (hf1.2 35 (by decide)) q
    have e36 : ∀ q, aM_high M1 q = aM_high M' q := fun q => congrFun (hf1.2 36 (by decide)) q
    have hky := hm.ok hG
    have eqv : ∀ q : Int, 0 ≤ q → q < cn (10 * s + x) → ((aM_low M1 q.toNat = sM_newLow M1 ∧ aM_high M1 q.toNat = sM_newHigh M1) ↔ K q = y) := by
      intro q q0 q1
      rw [e35, e36]
      constructor
      · rintro ⟨a, b⟩
        have h1 := (hrep q q0 q1).2
        rw [a, b] at h1
        exact h1.inj (hrep q q0 q1).1 hky hr1
      · intro e
        have h1 := (hrep q q0 q1).2
        rw [e] at h1
        exact h1.fn hr1
    refine g_m88 (by omega) (fun q q0 q1 a b hp => ?_) (fun hp => ?_)
    · have eK : K q = y := (eqv q q0 (by omega)).mp ⟨a, b⟩
      have eq : q = go (10 * s + x) := by
        have l1 : ¬ q < go (10 * s + x) := fun hl => hfirst q q0 hl eK
        have l2 : ¬ go (10 * s + x) < q := fun hl => hp _ ht.1 hl ((eqv _ ht.1 (by omega)).mpr hK)
        omega
      rw [if_neg (by omega)] at hcn
      refine b91_115 ⟨⟨by omega, by omega⟩, ih _ ⟨(hf.trans (hf1.mono (by decide) (by decide))).sA (by decide), ?_, ?_, ?_⟩⟩
      · rw [hcn]; exact e13
      · rw [hcn]
        intro p p0 p1
        show kOK G (K p) ∧ rep G (K p) (aM_low M1 p.toNat) (aM_high M1 p.toNat)
        rw [e35, e36]
        exact hrep p p0 p1
      · intro i i0 i1
        show (ev_sA M1 37 (10 * s + x).toNat q).2 37 i.toNat = _
        by_cases e : i = 10 * s + x
        · rw [e, sA_same]; exact eq
        · rw [sA_ne (by omega)]
          exact (hw1 i i0 e).trans (hw i i0 (by omega))
    · have eg : go (10 * s + x) = cn (10 * s + x) := by
        by_cases e : go (10 * s + x) = cn (10 * s + x)
        · exact e
        · exact absurd ((eqv _ ht.1 (by omega)).mpr hK) (hp _ ht.1 (by omega))
      rw [if_pos eg] at hcn
      rw [eg] at hK
      refine b91_115 ⟨⟨by omega, by omega⟩, ih _ ⟨((((hf.trans (hf1.mono (by decide) (by decide))).sA (by decide)).sA (by decide)).sS (by decide)).sA (by decide), ?_, ?_, ?_⟩⟩
      · rw [hcn, ← e13]; rfl
      · rw [hcn]
        intro p p0 p1
        show kOK G (K p) ∧ rep G (K p) ((ev_sA M1 35 (sM_states M1).toNat (sM_newLow M1)).2 35 p.toNat) ((ev_sA (ev_sA M1 35 (sM_states M1).toNat (sM_newLow M1)) 36 (sM_states M1).toNat (sM_newHigh M1)).2 36 p.toNat)
        by_cases e : p = cn (10 * s + x)
        · rw [e, e13, sA_same, sA_same, hK]
          exact ⟨hky, hr1⟩
        · rw [sA_ne (by omega), sA_ne (by omega)]
          show kOK G (K p) ∧ rep G (K p) (aM_low M1 p.toNat) (aM_high M1 p.toNat)
          rw [e35, e36]
          exact hrep p p0 (by omega)
      · intro i i0 i1
        show (ev_sA _ 37 (10 * s + x).toNat (sM_states M1)).2 37 i.toNat = _
        by_cases e : i = 10 * s + x
        · rw [e, sA_same, e13]; exact eg.symm
        · rw [sA_ne (by omega)]
          exact (hw1 i i0 e).trans (hw i i0 (by omega))
/-- the beginning -/
theorem beg91 (hG : okG G) (hI : isM G M) (hc : cn 0 = 1) (hK : K 0 = 72057594037927936) (h : ∀ M2 : ev_M, mJ G M K go cn (10 * 0) M2 → c91_26 0 M2 Q) : m91 M Q := by
  refine b91 ?_
  have e1 : (1 : Int) = ((2 ^ 0 : Nat) : Int) := by decide
  have e56 : (72057594037927936 : Int) = ((2 ^ 56 : Nat) : Int) := by decide
  have b1 : ∀ j : Nat, bt 1 j = true → j = 0 := by
    intro j hj
    rw [e1, bt_pow] at hj
    exact (of_decide_eq_true hj).symm
  refine g_m87 (k := K 0) hG (hI.of rfl rfl rfl rfl) ⟨⟨?_, ?_⟩, ⟨?_, ?_⟩, fun j hj => Or.inl (b1 j hj), fun j hj => ?_⟩ ⟨?_, ?_, fun r d a1 a2 a3 a4 => ?_⟩ (fun r r0 r1 => ?_) (fun M1 hf hrep => ?_)
  · show (0 : Int) ≤ 1; omega
  · show (1 : Int) < _; omega
  · show (0 : Int) ≤ 0; omega
  · show (0 : Int) < _; omega
  · have hj' : bt 0 j = true := hj
    rw [bt_zero] at hj'; exact absurd hj' (by decide)
  · show bt 1 0 = _
    rw [hK]; decide
  · show bt 1 1 = _
    rw [hK]; decide
  · have g2 := (hG.2 r a1 a2).2.1
    have g1 := hG.1
    show it2 1 0 r d = _
    have l : it2 1 0 r d = false := by
      refine Bool.eq_false_iff.mpr (fun hb => ?_)
      unfold it2 at hb
      split at hb
      · rw [bt_zero] at hb; exact absurd hb (by decide)
      · have := b1 _ hb; omega
    rw [l, hK, e56, bt_pow, decide_eq_false (by omega)]
  · show it2 1 0 r 0 = false
    refine Bool.eq_false_iff.mpr (fun hb => ?_)
    unfold it2 at hb
    split at hb
    · rw [bt_zero] at hb; exact absurd hb (by decide)
    · have := b1 _ hb; omega
  · have e13 : sM_states M1 = 0 := hf.1 13 (by decide)
    have hfM : fr [13, 14, 15] [35, 36, 37] M M1 := (((fr.refl.sS (by decide)).sS (by decide)).sS (by decide)).trans (hf.mono (by decide) (by decide))
    refine g_m88 (by omega) (fun q q0 q1 => by omega) (fun _ => h _ ⟨((hfM.sA (by decide)).sA (by decide)).sS (by decide), ?_, fun q q0 q1 => ?_, fun i i0 i1 => by omega⟩)
    · show sM_states M1 + 1 = cn 0
      rw [e13, hc]; rfl
    · have q1' : q < cn 0 := q1
      have eq : q = 0 := by omega
      subst eq
      refine ⟨by rw [hK]; exact kOK0, ?_⟩
      show rep G (K 0) ((ev_sA M1 35 (sM_states M1).toNat (sM_newLow M1)).2 35 0) ((ev_sA (ev_sA M1 35 (sM_states M1).toNat (sM_newLow M1)) 36 (sM_states M1).toNat (sM_newHigh M1)).2 36 0)
      rw [e13]
      show rep G (K 0) ((ev_sA M1 35 0 (sM_newLow M1)).2 35 0) ((ev_sA (ev_sA M1 35 0 (sM_newLow M1)) 36 0 (sM_newHigh M1)).2 36 0)
      rw [sA_same, sA_same]
      exact hrep
/-- the states before s, one after the other -/
theorem lp91 (hG : okG G) (hI : isM G M) {i n : Int} (hp : auP G i K go cn) (hn : 0 ≤ n ∧ 10 * n ≤ i) (h : ∀ M2 : ev_M, mJ G M K go cn (10 * n) M2 → c91_26 n M2 Q) : m91 M Q := by
  refine beg91 (go := go) hG hI hp.1.1 hp.1.2 (fun M2 hJ => ?_)
  refine lp (σ := ev_M) (n := n) (c := fun s M1 => c91_26 s M1 Q) (P := fun s M1 => mJ G M K go cn (10 * s) M1) ?_ h (by omega) hn.1 hJ
  intro s M1 s0 s1 hJ ih
  have hS := hp.2.2.2 (10 * s) (by omega) (by omega)
  have hS1 := hS.1
  rw [show 10 * s / 10 = s by omega] at hS1
  have e13 := hJ.2.1
  refine b91_26 ⟨fun g => absurd g (by omega), fun _ => ⟨fun g => absurd g (by omega), fun _ => ?_⟩⟩
  refine lp (σ := ev_M) (n := 10) (c := fun x M1 => c91_45 s x M1 Q) (P := fun x M1 => mJ G M K go cn (10 * s + x) M1) ?_ ?_ (by omega) (by omega) (by rw [show 10 * s + 0 = 10 * s by omega]; exact hJ)
  · intro x M1 x0 x1 hJ ih2
    exact st91 hG hI s0 ⟨x0, x1⟩ (hp.2.2.2 (10 * s + x) (by omega) (by omega)) hJ ih2
  · intro M1 hJ
    exact b91_45 ⟨fun _ => b91_121 ⟨⟨by omega, by omega⟩, ih M1 (by rw [show 10 * (s + 1) = 10 * s + 10 by omega]; exact hJ)⟩, fun g => absurd (by omega) g⟩
theorem g_m91 {c : Int} (hG : okG G) (hI : isM G M) (hE : auE G c K go) (h : ∀ M' : ev_M, fr [13, 14, 15, 16] [35, 36, 37] M M' → sM_known M' = 0 → sM_states M' = c → (∀ q : Int, 0 ≤ q → q < c → rep G (K q) (aM_low M' q.toNat) (aM_high M' q.toNat)) → (∀ i : Int, 0 ≤ i → i < 10 * c → aM_ways M' i.toNat = go i) → Q 1 M') : m91 M Q := by
  obtain ⟨cn, hp, hc, hc1, hc60⟩ := hE
  refine lp91 hG hI hp ⟨by omega, Int.le_refl _⟩ (fun M2 hJ => ?_)
  have e13 := hJ.2.1
  refine b91_26 ⟨fun _ => b91_127 ⟨fun g => absurd g (by omega), fun _ => b91_146 ⟨Or.inr rfl, h _ ?_ rfl (e13.trans hc) (fun q q0 q1 => (hJ.2.2.1 q q0 (by omega)).2) hJ.2.2.2⟩⟩, fun g => absurd (by omega) g⟩
  exact (hJ.1.mono (by decide) (by decide)).sS (by decide)
theorem g_m91F (hG : okG G) (hI : isM G M) (hF : auF G) (h : ∀ M' : ev_M, fr [13, 14, 15, 16] [35, 36, 37] M M' → Q 0 M') : m91 M Q := by
  obtain ⟨K, go, cn, i, y, hp, i0, i60, hc, hm, hy, hno⟩ := hF
  refine lp91 (n := i / 10) hG hI hp ⟨by omega, by omega⟩ (fun M2 hJ => ?_)
  have e13 := hJ.2.1
  have cs : i / 10 < cn (10 * (i / 10)) ∧ cn (10 * (i / 10)) ≤ 60 := by
    by_cases e : 10 * (i / 10) = i
    · rw [e]; omega
    · have := (hp.2.2.2 (10 * (i / 10)) (by omega) (by omega)).1
      omega
  refine b91_26 ⟨fun g => absurd g (by omega), fun _ => ⟨fun g => absurd g (by omega), fun _ => ?_⟩⟩
  refine lp (σ := ev_M) (n := i % 10) (c := fun x M1 => c91_45 (i / 10) x M1 Q) (P := fun x M1 => mJ G M K go cn (10 * (i / 10) + x) M1) ?_ ?_ (by omega) (by omega) (by rw [show 10 * (i / 10) + 0 = 10 * (i / 10) by omega]; exact hJ)
  · intro x M1 x0 x1 hJ ih2
    exact st91 hG hI (by omega) ⟨x0, by omega⟩ (hp.2.2.2 (10 * (i / 10) + x) (by omega) (by omega)) hJ ih2
  · intro M1 hJ
    rw [show 10 * (i / 10) + i % 10 = i by omega] at hJ
    obtain ⟨hf, hc2, hrep, hw⟩ := hJ
    have hI1 : isM G M1 := hI.of (hf.1 11 (by decide)) (hf.2 31 (by decide)) (hf.2 32 (by decide)) (hf.2 33 (by decide))
    have hky := hm.ok hG
    refine pre91 hG hI1 ⟨by omega, i60⟩ ⟨by omega, by omega⟩ (by omega) (hrep (i / 10) (by omega) (by omega)).2 hm (fun e => absurd e hy) (fun _ M3 hf3 _ hr3 => ?_)
    have e13 : sM_states M3 = 60 := ((hf3.1 13 (by decide)).trans hc2).trans hc
    refine g_m88 (by omega) (fun q q0 q1 a b _ => ?_) (fun _ => ?_)
    · have h1 := (hrep q q0 (by omega)).2
      have a' : aM_low M3 q.toNat = aM_low M1 q.toNat := congrFun (hf3.2 35 (by decide)) _
      have b' : aM_high M3 q.toNat = aM_high M1 q.toNat := congrFun (hf3.2 36 (by decide)) _
      rw [← a', ← b', a, b] at h1
      exact absurd (h1.inj (hrep q q0 (by omega)).1 hky hr3) (hno q q0 (by omega))
    · have hfr : fr [13, 14, 15] [35, 36, 37] M (ev_sA (ev_sS (ev_sA (ev_sA M3 35 (sM_states M3).toNat (sM_newLow M3)) 36 (sM_states M3).toNat (sM_newHigh M3)) 13 (sM_states M3 + 1)) 37 (10 * (i / 10) + i % 10).toNat (sM_states M3)) := ((((hf.trans (hf3.mono (by decide) (by decide))).sA (by decide)).sA (by decide)).sS (by decide)).sA (by decide)
      have big : 60 < sM_states (ev_sA (ev_sS (ev_sA (ev_sA M3 35 (sM_states M3).toNat (sM_newLow M3)) 36 (sM_states M3).toNat (sM_newHigh M3)) 13 (sM_states M3 + 1)) 37 (10 * (i / 10) + i % 10).toNat (sM_states M3)) := by
        show 60 < sM_states M3 + 1
        omega
      generalize ev_sA (ev_sS (ev_sA (ev_sA M3 35 (sM_states M3).toNat (sM_newLow M3)) 36 (sM_states M3).toNat (sM_newHigh M3)) 13 (sM_states M3 + 1)) 37 (10 * (i / 10) + i % 10).toNat (sM_states M3) = M4 at hfr big ⊢
      have fin : c91_127 M4 Q := b91_127 ⟨fun _ => b91_146 ⟨Or.inl rfl, h _ ((hfr.mono (by decide) (by decide)).sS (by decide))⟩, fun g => absurd big g⟩
      have fin2 : c91_121 (i / 10) M4 Q := b91_121 ⟨⟨by omega, by omega⟩, b91_26 ⟨fun _ => fin, fun _ => ⟨fun _ => fin, fun g => absurd big g⟩⟩⟩
      exact b91_115 ⟨⟨by omega, by omega⟩, b91_45 ⟨fun _ => fin2, fun _ => ⟨fun _ => fin2, fun g => absurd big g⟩⟩⟩
end MB
