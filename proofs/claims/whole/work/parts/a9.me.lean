/-! The model: findCounts -/
section ME
variable {G : gT} {n : Int} {w : Int → Int} {T : Int → Int → Int → Bool} {M M' : ev_M}
theorem msD_of (e : M'.2 41 = M.2 41) : msD M' = msD M := by
  refine cntB_congr (fun k _ => ?_)
  have : aM_done M' k = aM_done M k := congrFun e k
  rw [this]
theorem dN_kM {M1 : ev_M} {m i j : Int} (hm : 0 ≤ m ∧ m < 6) (hi : 0 ≤ i ∧ i ≤ 10) (hj : 0 ≤ j ∧ j ≤ 10) : kM M1 m i j = (aM_counts M1 (121 * m + 11 * i + j).toNat).toNat := if_pos ⟨hm, hi, hj⟩
/-- one node more is done -/
theorem cinv.add (hG : okG G) (hT : okT n w) (hD : isD G n w T) {M1 M2 : ev_M} {m i j : Int} (h : cinv G n T M M1) (hu : usd G n T m i j) (hnd : ¬ dN M1 m i j) (hk : ∀ x p e : Int, kid G T m i j x p e → dN M1 x p e) (hf : fr itS0 [] M1 M2) : cinv G n T M (ev_sA (ev_sA M2 42 (121 * m + 11 * i + j).toNat ((min (sumN (wt G (cv T (kM M1)) m i j) 18634) 1000000000 : Nat) : Int)) 41 (121 * m + 11 * i + j).toNat 1) := by
  have hn := hT.1
  have hrg := hu.rng hG hT hD
  have hon1 := h.ont hG hT hD
  obtain ⟨hf1, hd1, hc1, hdu, hkd, hkk, heq, ρ, B, hρ⟩ := h
  obtain ⟨N, hN⟩ : ∃ N : ev_M, N = ev_sA (ev_sA M2 42 (121 * m + 11 * i + j).toNat ((min (sumN (wt G (cv T (kM M1)) m i j) 18634) 1000000000 : Nat) : Int)) 41 (121 * m + 11 * i + j).toNat 1 := ⟨_, rfl⟩
  rw [← hN]
  have e41 : ∀ q : Nat, aM_done N q = if q = (121 * m + 11 * i + j).toNat then 1 else aM_done M1 q := by
    intro q
    rw [hN]
    show (ev_sA (ev_sA M2 42 _ _) 41 (121 * m + 11 * i + j).toNat 1).2 41 q = _
    by_cases e : q = (121 * m + 11 * i + j).toNat
    · rw [if_pos e, e, sA_same]
    · rw [if_neg e, sA_ne e]
      exact congrFun (hf.2 41 (by decide)) _
  have e42 : ∀ q : Nat, aM_counts N q = if q = (121 * m + 11 * i + j).toNat then ((min (sumN (wt G (cv T (kM M1)) m i j) 18634) 1000000000 : Nat) : Int) else aM_counts M1 q := by
    intro q
    rw [hN]
    show (ev_sA M2 42 (121 * m + 11 * i + j).toNat _).2 42 q = _
    by_cases e : q = (121 * m + 11 * i + j).toNat
    · rw [if_pos e, e, sA_same]
    · rw [if_neg e, sA_ne e]
      exact congrFun (hf.2 42 (by decide)) _
  have same : ∀ m' i' j' : Int, (0 ≤ m' ∧ m' < 6) → (0 ≤ i' ∧ i' ≤ 10) → (0 ≤ j' ∧ j' ≤ 10) → ((121 * m' + 11 * i' + j').toNat = (121 * m + 11 * i + j).toNat ↔ (m' = m ∧ i' = i ∧ j' = j)) := by
    intro m' i' j' a1 a2 a3
    omega
  have edN : ∀ m' i' j' : Int, dN N m' i' j' ↔ (dN M1 m' i' j' ∨ (m' = m ∧ i' = i ∧ j' = j)) := by
    intro m' i' j'
    unfold dN dn
    rw [e41]
    constructor
    · rintro ⟨a1, a2, a3, a4⟩
      by_cases e : m' = m ∧ i' = i ∧ j' = j
      · exact Or.inr e
      · rw [if_neg (fun h => e ((same m' i' j' a1 a2 a3).mp h))] at a4
        exact Or.inl ⟨a1, a2, a3, a4⟩
    · rintro (⟨a1, a2, a3, a4⟩ | ⟨rfl, rfl, rfl⟩)
      · refine ⟨a1, a2, a3, ?_⟩
        split
        · rfl
        · exact a4
      · exact ⟨by omega, by omega, by omega, if_pos rfl⟩
  have ekM : ∀ m' i' j' : Int, ¬ (m' = m ∧ i' = i ∧ j' = j) → kM N m' i' j' = kM M1 m' i' j' := by
    intro m' i' j' hne
    unfold kM
    by_cases hr : (0 ≤ m' ∧ m' < 6) ∧ (0 ≤ i' ∧ i' ≤ 10) ∧ (0 ≤ j' ∧ j' ≤ 10)
    · rw [if_pos hr, if_pos hr, e42, if_neg (fun h => hne ((same m' i' j' hr.1 hr.2.1 hr.2.2).mp h))]
    · rw [if_neg hr, if_neg hr]
  have ekN : kM N m i j = min (sumN (wt G (cv T (kM M1)) m i j) 18634) 1000000000 := by
    rw [dN_kM (by omega) (by omega) (by omega), e42, if_pos rfl, Int.toNat_natCast]
  have hduN : ∀ m' i' j' : Int, dN N m' i' j' → usd G n T m' i' j' := by
    intro m' i' j' hd
    rcases (edN _ _ _).mp hd with hd | ⟨rfl, rfl, rfl⟩
    · exact hdu _ _ _ hd
    · exact hu
  have hkdN : ∀ m' i' j' : Int, kM N m' i' j' ≠ 0 → dN N m' i' j' := by
    intro m' i' j' hne
    by_cases e : m' = m ∧ i' = i ∧ j' = j
    · exact (edN _ _ _).mpr (Or.inr e)
    · rw [ekM _ _ _ e] at hne
      exact (edN _ _ _).mpr (Or.inl (hkd _ _ _ hne))
  have honN : onT T (cv T (kM N)) := cv_onT (fun x p e hne => ((hduN x p e (hkdN x p e hne)).rng hG hT hD).2.2)
  have hne : ∀ x p e : Int, dN M1 x p e → ¬ (x = m ∧ p = i ∧ e = j) := by
    rintro x p e hd ⟨rfl, rfl, rfl⟩
    exact hnd hd
  refine ⟨?_, fun q hq => ?_, fun q hq => ?_, hduN, hkdN, fun m' i' j' hd x p e hkx => ?_, fun m' i' j' hd => ?_, fun m' i' j' => if m' = m ∧ i' = i ∧ j' = j then B else ρ m' i' j', B + 1, fun m' i' j' hd => ?_⟩
  · rw [hN]
    exact ((hf1.trans (hf.mono (by decide) (by decide))).sA (by decide)).sA (by decide)
  · rw [e41]
    split
    · exact Or.inr rfl
    · exact hd1 q hq
  · rw [e42]
    have := Nat.min_le_right (sumN (wt G (cv T (kM M1)) m i j) 18634) 1000000000
    split
    · omega
    · exact hc1 q hq
  · rcases (edN _ _ _).mp hd with hd | ⟨rfl, rfl, rfl⟩
    · exact (edN _ _ _).mpr (Or.inl (hkk _ _ _ hd x p e hkx))
    · exact (edN _ _ _).mpr (Or.inl (hk x p e hkx))
  · rcases (edN _ _ _).mp hd with hd | ⟨rfl, rfl, rfl⟩
    · rw [ekM _ _ _ (hne _ _ _ hd), heq _ _ _ hd, wt_congr hG hon1 honN (fun x p e hkx => (ekM _ _ _ (hne _ _ _ (hkk _ _ _ hd x p e hkx))).symm)]
    · rw [ekN, wt_congr hG hon1 honN (fun x p e hkx => (ekM _ _ _ (hne _ _ _ (hk x p e hkx))).symm)]
  · dsimp only
    rcases (edN _ _ _).mp hd with hd | ⟨rfl, rfl, rfl⟩
    · rw [if_neg (hne _ _ _ hd)]
      have h1 := hρ _ _ _ hd
      refine ⟨by omega, fun x p e hkx => ?_⟩
      rw [if_neg (hne _ _ _ (hkk _ _ _ hd x p e hkx))]
      exact h1.2 x p e hkx
    · rw [if_pos ⟨rfl, rfl, rfl⟩]
      refine ⟨by omega, fun x p e hkx => ?_⟩
      rw [if_neg (hne _ _ _ (hk x p e hkx))]
      exact (hρ _ _ _ (hk x p e hkx)).1
theorem USE.of (h : USE G n T M) (e : M'.2 40 = M.2 40) : USE G n T M' := by
  unfold USE uR us at h ⊢
  simp only [aM_used] at h ⊢
  rw [e]
  exact h
theorem cinv.fr {M1 M2 : ev_M} (h : cinv G n T M M1) (hf : fr (17 :: itS0) [] M1 M2) : cinv G n T M M2 := by
  have e41 := hf.2 41 (by decide)
  have e42 := hf.2 42 (by decide)
  have ek : kM M2 = kM M1 := kM.of e42
  have ed : ∀ m i j : Int, dN M2 m i j ↔ dN M1 m i j := by
    intro m i j; unfold dN dn; simp only [aM_done]; rw [e41]
  obtain ⟨hf1, hd1, hc1, hdu, hkd, hkk, heq, ρ, B, hρ⟩ := h
  refine ⟨hf1.trans (hf.mono (by decide) (by decide)), fun k hk => ?_, fun k hk => ?_, fun m i j hd => hdu m i j ((ed _ _ _).mp hd), fun m i j hne => (ed _ _ _).mpr (hkd m i j (by rw [← ek]; exact hne)), fun m i j hd x p e hkx => (ed _ _ _).mpr (hkk m i j ((ed _ _ _).mp hd) x p e hkx), fun m i j hd => by rw [ek]; exact heq m i j ((ed _ _ _).mp hd), ρ, B, fun m i j hd => hρ m i j ((ed _ _ _).mp hd)⟩
  · show M2.2 41 k = 0 ∨ M2.2 41 k = 1
    rw [e41]; exact hd1 k hk
  · show 0 ≤ M2.2 42 k ∧ M2.2 42 k ≤ 1000000000
    rw [e42]; exact hc1 k hk
theorem g_m118 {Q : ev_M → Prop} (hG : okG G) (hT : okT n w) (hM : isM G M) (hP : PAR G n w M) (hD : isD G n w T) (hU : USE G n T M) (hz0 : ∀ k : Nat, k < 726 → aM_counts M k = 0) (h : ∀ M' : ev_M, fr (17 :: itS0) [41, 42] M M' → CNM G n T M' → Q M') : m118 M Q := by
  have hn := hT.1
  have idx : ∀ nd : Int, 0 ≤ nd → nd < 726 → ∃ m i j : Int, (0 ≤ m ∧ m < 6) ∧ (0 ≤ i ∧ i ≤ 10) ∧ (0 ≤ j ∧ j ≤ 10) ∧ nd = 121 * m + 11 * i + j := fun nd d0 d1 => ⟨nd / 121, nd / 11 % 11, nd % 11, by omega, by omega, by omega, by omega⟩
  -- the end: endless or not
  have fin : ∀ M1 : ev_M, cinv G n T M M1 → (∀ m i j : Int, usd G n T m i j → ¬ dN M1 m i j → ∃ x p e : Int, kid G T m i j x p e ∧ ¬ dN M1 x p e) → c118_90 0 (ev_sS M1 17 0) Q := by
    intro M1 hv hst
    refine lp (σ := ev_M) (n := 726) (c := fun k M2 => c118_90 k M2 Q) (P := fun k M2 => fr [17] [] M1 M2 ∧ ((sM_endless M2 = 0 ∧ ∀ q : Nat, (q : Int) < k → aM_used M1 q = 0 ∨ aM_done M1 q = 1) ∨ (sM_endless M2 = 1 ∧ ∃ m i j : Int, usd G n T m i j ∧ ¬ dN M1 m i j))) ?_ ?_ (by omega) (by omega) ⟨fr.refl.sS (by decide), Or.inl ⟨rfl, fun q hq => by omega⟩⟩
    · rintro k M2 k0 k1 ⟨hf2, hc2⟩ ih
      have e40 : M2.2 40 = M1.2 40 := hf2.2 40 (by decide)
      have e41 : M2.2 41 = M1.2 41 := hf2.2 41 (by decide)
      have e40' : M1.2 40 = M.2 40 := hv.1.2 40 (by decide)
      have one : (∃ m i j : Int, usd G n T m i j ∧ ¬ dN M1 m i j) → c118_123 k M2 Q := fun hex => b118_123 (b118_128 ⟨Or.inr rfl, ⟨by omega, by omega⟩, ih _ ⟨hf2.sS (by decide), Or.inr ⟨rfl, hex⟩⟩⟩)
      have nul : (∀ q : Nat, (q : Int) < k → aM_used M1 q = 0 ∨ aM_done M1 q = 1) → (aM_used M1 k.toNat = 0 ∨ aM_done M1 k.toNat = 1) → c118_127 k M2 Q := by
        intro hall hk
        refine b118_127 (b118_128 ⟨Or.inl rfl, ⟨by omega, by omega⟩, ih _ ⟨hf2.sS (by decide), Or.inl ⟨rfl, fun q hq => ?_⟩⟩⟩)
        by_cases e : q = k.toNat
        · rw [e]; exact hk
        · exact hall q (by omega)
      refine b118_90 ⟨fun g => absurd g (by omega), fun _ => ⟨fun hne => ?_, fun hze => ⟨⟨k0, k1⟩, fun hu0 => ?_, fun hu1 => ⟨⟨k0, k1⟩, fun hd1 => ?_, fun hd0 => ?_⟩⟩⟩⟩
      · rcases hc2 with ⟨e, -⟩ | ⟨-, hex⟩
        · exact absurd e hne
        · exact one hex
      · rcases hc2 with ⟨-, hall⟩ | ⟨e, -⟩
        · have : M2.2 40 k.toNat = 0 := hu0
          rw [e40] at this
          exact nul hall (Or.inl this)
        · have := Decidable.of_not_not hze; omega
      · rcases hc2 with ⟨-, hall⟩ | ⟨e, -⟩
        · have h1 : ¬ M2.2 41 k.toNat = 0 := hd1
          rw [e41] at h1
          rcases hv.2.1 k.toNat (by omega) with e | e
          · exact absurd e h1
          · exact nul hall (Or.inr e)
        · have := Decidable.of_not_not hze; omega
      · obtain ⟨m, i, j, hm, hi, hj, ek⟩ := idx k k0 k1
        have h1 : ¬ M2.2 40 k.toNat = 0 := hu1
        rw [e40, e40'] at h1
        have h2 : M2.2 41 k.toNat = 0 := Decidable.of_not_not hd0
        rw [e41] at h2
        have hus : us M m i j := by
          refine ⟨hm, hi, hj, ?_⟩
          rw [← ek]
          rcases hU.1 k.toNat (by omega) with e | e
          · exact absurd e h1
          · exact e
        refine one ⟨m, i, j, (hU.2 m i j).mp hus, fun hd => ?_⟩
        have := hd.2.2.2
        unfold dn at this
        rw [← ek] at this
        simp only [aM_done] at this
        omega
    · rintro M2 ⟨hf2, hc2⟩
      have e42 : M2.2 42 = M1.2 42 := hf2.2 42 (by decide)
      have hv2 := hv.fr (M2 := M2) (hf2.mono (by decide) (by decide))
      have ek : kM M2 = kM M1 := kM.of e42
      refine b118_90 ⟨fun _ => h M2 hv2.1 ⟨⟨hv2.2.2.1, hv2.2.1⟩, fun m i j hne => hv2.2.2.2.1 m i j (hv2.2.2.2.2.1 m i j hne), ?_⟩, fun g => absurd (by omega) g⟩
      rcases hc2 with ⟨e0, hall⟩ | ⟨e1, m, i, j, hu, hnd⟩
      · have hdone : ∀ m i j : Int, usd G n T m i j → dN M1 m i j := by
          intro m i j hu
          have hrg := hu.rng hG hT hD
          have hus := (hU.2 m i j).mpr hu
          refine ⟨by omega, by omega, by omega, ?_⟩
          rcases hall (121 * m + 11 * i + j).toNat (by omega) with e | e
          · have e40' : M1.2 40 = M.2 40 := hv.1.2 40 (by decide)
            have : M1.2 40 (121 * m + 11 * i + j).toNat = 0 := e
            rw [e40'] at this
            have h3 := hus.2.2.2
            simp only [aM_used] at h3
            omega
          · exact e
        obtain ⟨-, -, -, -, -, -, heq, ρ, B, hρ⟩ := hv
        refine Or.inr ⟨e0, ⟨⟨ρ, fun m i j x p e hu hk => (hρ m i j (hdone m i j hu)).2 x p e hk⟩, fun m i j hu => ?_⟩, fun m i j hu => ?_⟩
        · rw [ek]
          exact heq m i j (hdone m i j hu)
        · have h9 := (hdone m i j hu).2.2.2
          unfold dn at h9 ⊢
          simp only [aM_done] at h9 ⊢
          rw [hf2.2 41 (by decide)]
          exact h9
      · exact Or.inl ⟨e1, fun m i j => usd G n T m i j ∧ ¬ dN M1 m i j, ⟨m, i, j, hu, hnd⟩, fun m i j hO => ⟨hO.1, by
          obtain ⟨x, p, e, hk, hd⟩ := hst m i j hO.1 hO.2
          exact ⟨x, p, e, hk, hO.1.kid hk, hd⟩⟩⟩
  have rounds : ∀ (k : Nat) (M1 : ev_M), 726 - msD M1 < k → cinv G n T M M1 → c118_24 1 M1 Q := by
    intro k
    induction k with
    | zero => intro M1 hk; omega
    | succ k ihk =>
      intro M1 hk hv
      have hms : msD M1 ≤ 726 := cntB_le
      refine b118_24 ⟨fun g => absurd g (by decide), fun _ => ?_⟩
      refine lp (σ := Int × ev_M) (n := 726) (c := fun nd s => c118_32 s.1 nd s.2 Q) (P := fun nd s => cinv G n T M s.2 ∧ ((s.1 = 0 ∧ fr itS0 [] M1 s.2 ∧ ∀ m i j : Int, 121 * m + 11 * i + j < nd → usd G n T m i j → ¬ dN M1 m i j → ∃ x p e : Int, kid G T m i j x p e ∧ ¬ dN M1 x p e) ∨ (s.1 = 1 ∧ msD M1 < msD s.2))) ?_ ?_ (r := 0) (s := (0, M1)) (by omega) (by omega) ⟨hv, Or.inl ⟨rfl, fr.refl, fun m i j hlt hu => by have := hu.rng hG hT hD; omega⟩⟩
      · rintro nd ⟨g, M2⟩ d0 d1 ⟨hv2, hg2⟩ ih
        dsimp only at hv2 hg2 ih ⊢
        obtain ⟨m, i, j, hm, hi, hj, end_⟩ := idx nd d0 d1
        have e40 : M2.2 40 = M.2 40 := hv2.1.2 40 (by decide)
        -- nothing new
        have skip : ∀ M3 : ev_M, fr itS0 [] M2 M3 → (usd G n T m i j → ¬ dN M2 m i j → ∃ x p e : Int, kid G T m i j x p e ∧ ¬ dN M2 x p e) → c118_74 g nd M3 Q := by
          intro M3 hf3 hx
          refine b118_74 ⟨⟨by omega, by omega⟩, ih (g, M3) ⟨hv2.fr (hf3.mono (by decide) (by decide)), ?_⟩⟩
          rcases hg2 with ⟨g0, hf2, hq⟩ | ⟨g1, hlt⟩
          · refine Or.inl ⟨g0, hf2.trans hf3, fun m' i' j' hlt hu hnd => ?_⟩
            by_cases e : 121 * m' + 11 * i' + j' = nd
            · have hr := hu.rng hG hT hD
              have e1 : m' = m := by omega
              have e2 : i' = i := by omega
              have e3 : j' = j := by omega
              subst e1; subst e2; subst e3
              have ed : ∀ x p e : Int, dN M2 x p e ↔ dN M1 x p e := by
                intro x p e
                unfold dN dn
                simp only [aM_done]
                rw [hf2.2 41 (by decide)]
              obtain ⟨x, p, e, a1, a2⟩ := hx hu (fun h => hnd ((ed _ _ _).mp h))
              exact ⟨x, p, e, a1, fun h => a2 ((ed _ _ _).mpr h)⟩
            · exact hq m' i' j' (by omega) hu hnd
          · refine Or.inr ⟨g1, ?_⟩
            have : msD M3 = msD M2 := msD_of (hf3.2 41 (by decide))
            show msD M1 < msD M3
            omega
        refine b118_32 ⟨fun g => absurd g (by omega), fun _ => ⟨⟨d0, d1⟩, fun hu0 => skip M2 fr.refl (fun hu => ?_), fun hu1 => ⟨⟨d0, d1⟩, fun hd1 => skip M2 fr.refl (fun _ hnd => ?_), fun hd0 => ?_⟩⟩⟩
        · have := ((hU.2 m i j).mpr hu).2.2.2
          rw [← end_] at this
          have h2 : M2.2 40 nd.toNat = 0 := hu0
          rw [e40] at h2
          simp only [aM_used] at this
          omega
        · refine absurd ⟨hm, hi, hj, ?_⟩ hnd
          unfold dn
          rw [← end_]
          rcases hv2.2.1 nd.toNat (by omega) with e | e
          · exact absurd e hd1
          · exact e
        · have hus : us M m i j := by
            refine ⟨hm, hi, hj, ?_⟩
            rw [← end_]
            have h1 : ¬ M2.2 40 nd.toNat = 0 := hu1
            rw [e40] at h1
            rcases hU.1 nd.toNat (by omega) with e | e
            · exact absurd e h1
            · exact e
          have hu := (hU.2 m i j).mp hus
          have hrg := hu.rng hG hT hD
          have hd0' : aM_done M2 nd.toNat = 0 := Decidable.of_not_not hd0
          have hnd : ¬ dN M2 m i j := by
            intro hd
            have := hd.2.2.2
            unfold dn at this
            rw [← end_] at this
            omega
          have hM2 : isM G M2 := hM.of (hv2.1.1 11 (by decide)) (hv2.1.2 31 (by decide)) (hv2.1.2 32 (by decide)) (hv2.1.2 33 (by decide))
          have kdN : ∀ x p e : Int, kid G T m i j x p e → ((0 ≤ x ∧ x < 6) ∧ (0 ≤ p ∧ p ≤ 10) ∧ (0 ≤ e ∧ e ≤ 10)) := by
            intro x p e hk
            have := (hu.kid hk).rng hG hT hD
            omega
          refine g_m117 (m := m) (i := i) (j := j) hG hM2 (hP.of (hv2.1.2 39 (by decide))) hD hm ⟨by omega, by omega, by omega⟩ end_ hv2.2.1 hv2.2.2.1 (hv2.ont hG hT hD) (fun hall M3 hf3 => ⟨fun g => absurd g (by decide), fun _ => ⟨⟨d0, d1⟩, b118_74 ⟨⟨by omega, by omega⟩, ih (1, _) ⟨?_, Or.inr ⟨rfl, ?_⟩⟩⟩⟩⟩) (fun hex M3 hf3 => ⟨fun _ => skip M3 hf3 (fun _ _ => ?_), fun g => absurd rfl g⟩)
          · rw [end_]
            exact hv2.add hG hT hD hu hnd (fun x p e hk => ⟨(kdN x p e hk).1, (kdN x p e hk).2.1, (kdN x p e hk).2.2, hall x p e hk⟩) hf3
          · have h1 : msD M1 ≤ msD M2 := by
              rcases hg2 with ⟨-, hf2, -⟩ | ⟨-, hlt⟩
              · have : msD M2 = msD M1 := msD_of (hf2.2 41 (by decide))
                omega
              · omega
            obtain ⟨x, hx⟩ : ∃ x : Int, x = ((min (sumN (wt G (cv T (kM M2)) m i j) 18634) 1000000000 : Nat) : Int) := ⟨_, rfl⟩
            rw [← hx]
            have h2 : msD M2 < msD (ev_sA (ev_sA M3 42 nd.toNat x) 41 nd.toNat 1) := by
              refine cntB_lt (k := nd.toNat) (fun q hq hb => decide_eq_true ?_) (by omega) (decide_eq_false (by omega)) (decide_eq_true ?_)
              · show (ev_sA (ev_sA M3 42 nd.toNat x) 41 nd.toNat 1).2 41 q = 1
                by_cases e : q = nd.toNat
                · rw [e, sA_same]
                · rw [sA_ne e]
                  show M3.2 41 q = 1
                  rw [hf3.2 41 (by decide)]
                  exact of_decide_eq_true hb
              · exact sA_same
            show msD M1 < msD (ev_sA (ev_sA M3 42 nd.toNat x) 41 nd.toNat 1)
            omega
          · obtain ⟨x, p, e, a1, a2⟩ := hex
            exact ⟨x, p, e, a1, fun h => a2 h.2.2.2⟩
      · rintro ⟨g, M2⟩ ⟨hv2, hg2⟩
        dsimp only at hv2 hg2 ⊢
        refine b118_32 ⟨fun _ => ?_, fun g => absurd (by omega) g⟩
        rcases hg2 with ⟨g0, hf2, hq⟩ | ⟨g1, hlt⟩
        · subst g0
          refine b118_24 ⟨fun _ => fin M2 hv2 (fun m i j hu hnd => ?_), fun g => absurd rfl g⟩
          have ed : ∀ x p e : Int, dN M2 x p e ↔ dN M1 x p e := by
            intro x p e
            unfold dN dn
            simp only [aM_done]
            rw [hf2.2 41 (by decide)]
          have hrg := hu.rng hG hT hD
          obtain ⟨x, p, e, a1, a2⟩ := hq m i j (by omega) hu (fun h => hnd ((ed _ _ _).mpr h))
          exact ⟨x, p, e, a1, fun h => a2 ((ed _ _ _).mp h)⟩
        · subst g1
          have h2 : msD M2 ≤ 726 := cntB_le
          exact ihk M2 (by omega) hv2
  refine b118 ?_
  refine lp (σ := ev_M) (n := 726) (c := fun k M1 => c118_2 k M1 Q) (P := fun k M1 => fr [] [41] M M1 ∧ ∀ q : Nat, (q : Int) < k → aM_done M1 q = 0) ?_ ?_ (by omega) (by omega) ⟨fr.refl, fun q hq => by omega⟩
  · rintro k M1 k0 k1 ⟨hf, hz⟩ ih
    refine b118_2 ⟨fun g => absurd g (by omega), fun _ => ⟨⟨k0, k1⟩, ⟨by omega, by omega⟩, ih _ ⟨hf.sA (by decide), fun q hq => ?_⟩⟩⟩
    show (ev_sA M1 41 k.toNat 0).2 41 q = 0
    by_cases e : q = k.toNat
    · rw [e, sA_same]
    · rw [sA_ne e]; exact hz q (by omega)
  · rintro M1 ⟨hf, hz⟩
    have nod : ∀ m i j : Int, ¬ dN M1 m i j := by
      rintro m i j ⟨a1, a2, a3, a4⟩
      unfold dn at a4
      have := hz (121 * m + 11 * i + j).toNat (by omega)
      omega
    have e42 : M1.2 42 = M.2 42 := hf.2 42 (by decide)
    have k0 : ∀ m i j : Int, kM M1 m i j = 0 := by
      intro m i j
      unfold kM
      split
      · rename_i hr
        show (M1.2 42 _).toNat = 0
        rw [e42]
        have := hz0 (121 * m + 11 * i + j).toNat (by omega)
        simp only [aM_counts] at this
        rw [this]; rfl
      · rfl
    refine b118_2 ⟨fun _ => rounds 727 M1 (by omega) ⟨hf.mono (by decide) (by decide), fun q hq => Or.inl (hz q (by omega)), fun q hq => ?_, fun m i j hd => absurd hd (nod m i j), fun m i j hne => absurd (k0 m i j) hne, fun m i j hd => absurd hd (nod m i j), fun m i j hd => absurd hd (nod m i j), fun _ _ _ => 0, 0, fun m i j hd => absurd hd (nod m i j)⟩, fun g => absurd (by omega) g⟩
    show 0 ≤ M1.2 42 q ∧ M1.2 42 q ≤ 1000000000
    rw [e42]
    have := hz0 q hq
    simp only [aM_counts] at this
    omega
end ME
