/-! The model: a walk over all families of a node -/
section FL
variable {G : gT} {n : Int} {w : Int → Int} {T : Int → Int → Int → Bool} {m f t : Int} {M : ev_M}
theorem famL {c : Int → ev_M → Prop} {P : Int → ev_M → Prop} {nd : Int} (hG : okG G) (hD : isD G n w T) (hm : 0 ≤ m) (hf : 0 ≤ f ∧ f ≤ t ∧ t ≤ 10) (hnd : nd = 121 * m + 11 * f + t) (hlt : nd < 726)
    (hP : ∀ (k : Int) (M1 : ev_M), P k M1 → isM G M1 ∧ PAR G n w M1) (hfr : ∀ (k : Int) (M1 M2 : ev_M), fr itS0 [] M1 M2 → P k M1 → P k M2)
    (hskip : ∀ (k k' : Int) (M1 : ev_M), 0 ≤ k → k ≤ k' → (∀ r a b d : Int, isF G T m f t r a b d → k ≤ (1331 * r + 121 * a + 11 * b + d) → k' ≤ (1331 * r + 121 * a + 11 * b + d)) → P k M1 → P k' M1)
    (hbody : ∀ M1 : ev_M, itR G m f t M1 → 0 ≤ sM_rule M1 → isF G T m f t (sM_rule M1) (sM_one M1) (sM_two M1) (sM_three M1) → (0 ≤ cur M1 ∧ cur M1 < 18634) → cur M1 = (1331 * (sM_rule M1) + 121 * (sM_one M1) + 11 * (sM_two M1) + (sM_three M1)) → P (cur M1) M1 → (∀ M2 : ev_M, itR G m f t M2 → cur M2 = cur M1 → P (cur M1 + 1) M2 → m111 M2 c) → c 1 M1)
    (hend : ∀ M1 : ev_M, P 18634 M1 → c 0 M1) (h : P 0 M) : m112 nd M c := by
  have key : ∀ (k : Nat) (M1 : ev_M), 18634 - cur M1 ≤ k → itR G m f t M1 → 0 ≤ sM_rule M1 → isF G T m f t (sM_rule M1) (sM_one M1) (sM_two M1) (sM_three M1) → P (cur M1) M1 → c 1 M1 := by
    intro k
    induction k with
    | zero =>
      intro M1 hk hI hr hF hp
      have := hF.1.rng hG hf
      have ec : cur M1 = (1331 * (sM_rule M1) + 121 * (sM_one M1) + 11 * (sM_two M1) + (sM_three M1)) := if_neg (by omega)
      omega
    | succ k ih =>
      intro M1 hk hI hr hF hp
      have hv := hF.1.rng hG hf
      have ec : cur M1 = (1331 * (sM_rule M1) + 121 * (sM_one M1) + 11 * (sM_two M1) + (sM_three M1)) := if_neg (by omega)
      refine hbody M1 hI hr hF (by omega) ec hp (fun M2 hI2 ec2 hp2 => ?_)
      obtain ⟨hM2, hP2⟩ := hP _ _ hp2
      refine g_m111 hG hM2 hP2 hD hf hI2 (fun M3 hf3 hr3 hI3 hF3 hlt3 hmin3 => ?_) (fun M3 hf3 hall => ?_)
      · refine ih M3 (by omega) hI3 hr3 hF3 (hfr _ _ _ (hf3.mono (by decide) (by decide)) (hskip (cur M1 + 1) (cur M3) M2 (by omega) (by omega) (fun r a b d hF4 hle => hmin3 r a b d hF4 (by omega)) hp2))
      · refine hend M3 (hfr _ _ _ (hf3.mono (by decide) (by decide)) (hskip (cur M1 + 1) 18634 M2 (by omega) (by omega) (fun r a b d hF4 hle => ?_) hp2))
        have := hall r a b d hF4
        omega
  obtain ⟨hM, hPa⟩ := hP _ _ h
  refine g_m112 hG hM hPa hD hm hf hnd hlt (fun M' hf' hr hI hF hmin => ?_) (fun M' hf' hno => ?_)
  · have hv := hF.1.rng hG hf
    have ec : cur M' = (1331 * (sM_rule M') + 121 * (sM_one M') + 11 * (sM_two M') + (sM_three M')) := if_neg (by omega)
    exact key (18634 - cur M').toNat M' (by omega) hI hr hF (hfr _ _ _ hf' (hskip 0 (cur M') M (by omega) (by omega) (fun r a b d hF4 _ => hmin r a b d hF4) h))
  · exact hend M' (hfr _ _ _ hf' (hskip 0 18634 M (by omega) (by omega) (fun r a b d hF4 _ => absurd hF4 (hno r a b d)) h))
end FL
/-! The nodes in use -/
/-- node (m, i, j) has the maker (x, p, q) in a family -/
def kid (G : gT) (T : Int → Int → Int → Bool) (m i j x p q : Int) : Prop := ∃ r a b c k : Int, isF G T m i j r a b c ∧ 0 ≤ k ∧ k < gz G r ∧ gs G r k ≤ 5 ∧ x = gs G r k ∧ p = pf i a b c k ∧ q = pt a b c j k
def usd (G : gT) (n : Int) (T : Int → Int → Int → Bool) (m i j : Int) : Prop := ∀ U : Int → Int → Int → Prop, (T 0 0 n = true → U 0 0 n) → (∀ m i j x p q : Int, U m i j → kid G T m i j x p q → U x p q) → U m i j
section US
variable {G : gT} {n : Int} {w : Int → Int} {T : Int → Int → Int → Bool} {m i j : Int} {M M' : ev_M}
theorem usd.root (h : T 0 0 n = true) : usd G n T 0 0 n := fun _ a _ => a h
theorem usd.kid {x p q : Int} (h : usd G n T m i j) (hk : kid G T m i j x p q) : usd G n T x p q := fun U a b => b m i j x p q (h U a b) hk
theorem kid.ok (hG : okG G) {x p q : Int} (hk : kid G T m i j x p q) : 0 ≤ x ∧ x ≤ 5 ∧ T x p q = true := by
  obtain ⟨r, a, b, c, k, hF, k0, k1, k2, rfl, rfl, rfl⟩ := hk
  have h3 := ((isF_iff hG).mp hF).2.2 k k0 k1
  exact ⟨((hG.2 r hF.1.1.1 hF.1.1.2).2.2 k k0 k1).1, k2, h3⟩
theorem usd.rng (hG : okG G) (hT : okT n w) (hD : isD G n w T) (h : usd G n T m i j) : (0 ≤ m ∧ m < 6) ∧ (0 ≤ i ∧ i ≤ j ∧ j ≤ n) ∧ T m i j = true := by
  have hn := hT.1
  refine h (fun m i j => (0 ≤ m ∧ m < 6) ∧ (0 ≤ i ∧ i ≤ j ∧ j ≤ n) ∧ T m i j = true) (fun h => ⟨by omega, by omega, h⟩) (fun m i j x p q hU hk => ?_)
  obtain ⟨a1, a2, a3⟩ := hk.ok hG
  have := ((hD _ _ _).mp a3).rng hG hT
  exact ⟨by omega, by omega, a3⟩
/-- the model's row of nodes in use -/
def us (M : ev_M) (m i j : Int) : Prop := (0 ≤ m ∧ m < 6) ∧ (0 ≤ i ∧ i ≤ 10) ∧ (0 ≤ j ∧ j ≤ 10) ∧ aM_used M (121 * m + 11 * i + j).toNat = 1
def uR (M : ev_M) : Prop := ∀ k : Nat, k < 726 → aM_used M k = 0 ∨ aM_used M k = 1
def USE (G : gT) (n : Int) (T : Int → Int → Int → Bool) (M : ev_M) : Prop := uR M ∧ ∀ m i j : Int, us M m i j ↔ usd G n T m i j
theorem PAR.of (h : PAR G n w M) (e : M'.2 39 = M.2 39) : PAR G n w M' := by
  unfold PAR tR tt at h ⊢
  simp only [aM_table] at h ⊢
  rw [e]
  exact h
theorem g_m114 {Q : ev_M → Prop} {nd : Int} (hG : okG G) (hT : okT n w) (hM : isM G M) (hP : PAR G n w M) (hD : isD G n w T) (hm : 0 ≤ m ∧ m < 6) (hij : 0 ≤ i ∧ i ≤ j ∧ j ≤ n) (hnd : nd = 121 * m + 11 * i + j) (hu : uR M) (h : ∀ M' : ev_M, fr itS0 [40] M M' → uR M' → (∀ x p q : Int, us M x p q → us M' x p q) → (∀ x p q : Int, kid G T m i j x p q → us M' x p q) → (∀ x p q : Int, us M' x p q → us M x p q ∨ kid G T m i j x p q) → Q M') : m114 nd M Q := by
  have hn := hT.1
  refine b114 ?_
  refine famL (f := i) (t := j) (m := m) (c := fun w1 M1 => c114_6 w1 M1 Q) (P := fun k M1 => fr itS0 [40] M M1 ∧ uR M1 ∧ (∀ x p q : Int, us M x p q → us M1 x p q) ∧ (∀ r a b c d : Int, isF G T m i j r a b c → (1331 * r + 121 * a + 11 * b + c) < k → 0 ≤ d → d < gz G r → gs G r d ≤ 5 → us M1 (gs G r d) (pf i a b c d) (pt a b c j d)) ∧ (∀ x p q : Int, us M1 x p q → us M x p q ∨ kid G T m i j x p q)) hG hD hm.1 (by omega) hnd (by omega) (fun k M1 hp => ⟨hM.of (hp.1.1 11 (by decide)) (hp.1.2 31 (by decide)) (hp.1.2 32 (by decide)) (hp.1.2 33 (by decide)), hP.of (hp.1.2 39 (by decide))⟩) (fun k M1 M2 hf2 hp => ?_) (fun k k' M1 k0 hkk hno hp => ⟨hp.1, hp.2.1, hp.2.2.1, fun r a b c d hF hlt => hp.2.2.2.1 r a b c d hF ?_, hp.2.2.2.2⟩) ?_ ?_ ⟨fr.refl, hu, fun _ _ _ h => h, fun r a b c d hF hlt => ?_, fun _ _ _ h => Or.inl h⟩
  · have e40 := hf2.2 40 (by decide)
    have eu : ∀ x p q : Int, us M2 x p q ↔ us M1 x p q := by
      intro x p q
      unfold us
      simp only [aM_used]
      rw [e40]
    refine ⟨hp.1.trans (hf2.mono (by decide) (by decide)), fun q hq => ?_, fun x p q hx => (eu x p q).mpr (hp.2.2.1 x p q hx), fun r a b c d hF h1 h2 h3 h4 => (eu _ _ _).mpr (hp.2.2.2.1 r a b c d hF h1 h2 h3 h4), fun x p q hx => hp.2.2.2.2 x p q ((eu x p q).mp hx)⟩
    show M2.2 40 q = 0 ∨ M2.2 40 q = 1
    rw [e40]
    exact hp.2.1 q hq
  · refine Decidable.byContradiction (fun hn2 => ?_)
    have := hno r a b c hF (by omega)
    omega
  · intro M1 hI hr hF hcr hcc hp nxt
    have r1 := hF.1.1.2
    have hg := hG.2 _ hr r1
    have gc := hG.1
    refine b114_6 ⟨fun g => absurd g (by decide), fun _ => ?_⟩
    refine lp (σ := ev_M) (n := gz G (sM_rule M1)) (c := fun d M2 => c114_12 d M2 Q) (P := fun d M2 => fr [] [40] M1 M2 ∧ uR M2 ∧ (∀ x p q : Int, us M1 x p q → us M2 x p q) ∧ (∀ d' : Int, 0 ≤ d' → d' < d → gs G (sM_rule M1) d' ≤ 5 → us M2 (gs G (sM_rule M1) d') (pf i (sM_one M1) (sM_two M1) (sM_three M1) d') (pt (sM_one M1) (sM_two M1) (sM_three M1) j d')) ∧ (∀ x p q : Int, us M2 x p q → us M1 x p q ∨ kid G T m i j x p q)) ?_ ?_ (by omega) hg.2.1.1 ⟨fr.refl, hp.2.1, fun _ _ _ h => h, fun d' a1 a2 => by omega, fun _ _ _ h => Or.inl h⟩
    · rintro d M2 d0 d1 ⟨hf2, hu2, hm2, hd2, hs2⟩ ih
      have hM2 : isM G M2 := hM.of ((hf2.1 11 (by decide)).trans (hp.1.1 11 (by decide))) ((hf2.2 31 (by decide)).trans (hp.1.2 31 (by decide))) ((hf2.2 32 (by decide)).trans (hp.1.2 32 (by decide))) ((hf2.2 33 (by decide)).trans (hp.1.2 33 (by decide)))
      have e18 : sM_maker M2 = sM_maker M1 := hf2.1 18 (by decide)
      have e19 : sM_from M2 = sM_from M1 := hf2.1 19 (by decide)
      have e20 : sM_to M2 = sM_to M1 := hf2.1 20 (by decide)
      have e21 : sM_rule M2 = sM_rule M1 := hf2.1 21 (by decide)
      have e22 : sM_one M2 = sM_one M1 := hf2.1 22 (by decide)
      have e23 : sM_two M2 = sM_two M1 := hf2.1 23 (by decide)
      have e24 : sM_three M2 = sM_three M1 := hf2.1 24 (by decide)
      have hI2 : itR G m i j M2 := by
        unfold itR
        rw [e18, e19, e20, e21, e22, e23, e24]
        exact hI
      have esz : aM_sizes M2 (sM_rule M2).toNat = gz G (sM_rule M1) := by rw [e21]; exact (hM2.2 _ hr r1).2.1
      have hsy := hg.2.2 d d0 d1
      refine b114_12 ⟨by rw [e21]; omega, fun g => absurd g (by rw [esz]; omega), fun _ => g_m113 hG hM2 (by omega) hI2 (by rw [e21]; exact hr) (by rw [e21]; exact ⟨d0, d1⟩) ?_⟩
      rw [e21, e22, e23, e24]
      have hv := hF.1.rng hG ⟨hij.1, hij.2.1, by omega⟩
      have p1 := pf_rng (f := i) (k := d) (by omega) hv.2.1 hv.2.2.1 hv.2.2.2.1
      have p2 := pt_rng (t := j) (k := d) (by omega) hv.2.1 hv.2.2.1 hv.2.2.2.1
      by_cases e5 : gs G (sM_rule M1) d ≤ 5
      · rw [if_pos e5]
        refine ⟨fun g => absurd g (by omega), fun _ => g_m113 hG hM2 (by omega) hI2 (by rw [e21]; exact hr) (by rw [e21]; exact ⟨d0, d1⟩) ?_⟩
        rw [e21, e22, e23, e24, if_pos e5]
        have kd : kid G T m i j (gs G (sM_rule M1) d) (pf i (sM_one M1) (sM_two M1) (sM_three M1) d) (pt (sM_one M1) (sM_two M1) (sM_three M1) j d) := ⟨_, _, _, _, d, hF, d0, d1, e5, rfl, rfl, rfl⟩
        generalize hpe : pf i (sM_one M1) (sM_two M1) (sM_three M1) d = pp at *
        generalize hqe : pt (sM_one M1) (sM_two M1) (sM_three M1) j d = qq at *
        refine ⟨by omega, b114_44 ⟨⟨by omega, by omega⟩, ih _ ⟨hf2.sA (by decide), fun q hq => ?_, fun x p q hx => ?_, fun d' a1 a2 a3 => ?_, fun x p q hx => ?_⟩⟩⟩
        · show (ev_sA M2 40 (121 * gs G (sM_rule M1) d + 11 * pp + qq).toNat 1).2 40 q = 0 ∨ (ev_sA M2 40 (121 * gs G (sM_rule M1) d + 11 * pp + qq).toNat 1).2 40 q = 1
          by_cases e : q = (121 * gs G (sM_rule M1) d + 11 * pp + qq).toNat
          · rw [e, sA_same]; exact Or.inr rfl
          · rw [sA_ne e]; exact hu2 q hq
        · obtain ⟨b1, b2, b3, b4⟩ := hm2 x p q hx
          refine ⟨b1, b2, b3, ?_⟩
          show (ev_sA M2 40 (121 * gs G (sM_rule M1) d + 11 * pp + qq).toNat 1).2 40 (121 * x + 11 * p + q).toNat = 1
          by_cases e : (121 * x + 11 * p + q).toNat = (121 * gs G (sM_rule M1) d + 11 * pp + qq).toNat
          · rw [e, sA_same]
          · rw [sA_ne e]; exact b4
        · by_cases ed : d' = d
          · subst ed
            rw [hpe, hqe]
            refine ⟨by omega, p1, p2, ?_⟩
            exact sA_same
          · obtain ⟨b1, b2, b3, b4⟩ := hd2 d' a1 (by omega) a3
            refine ⟨b1, b2, b3, ?_⟩
            show (ev_sA M2 40 (121 * gs G (sM_rule M1) d + 11 * pp + qq).toNat 1).2 40 _ = 1
            by_cases e : (121 * gs G (sM_rule M1) d' + 11 * pf i (sM_one M1) (sM_two M1) (sM_three M1) d' + pt (sM_one M1) (sM_two M1) (sM_three M1) j d').toNat = (121 * gs G (sM_rule M1) d + 11 * pp + qq).toNat
            · rw [e, sA_same]
            · rw [sA_ne e]; exact b4
        · obtain ⟨b1, b2, b3, b4⟩ := hx
          have b4' : (ev_sA M2 40 (121 * gs G (sM_rule M1) d + 11 * pp + qq).toNat 1).2 40 (121 * x + 11 * p + q).toNat = 1 := b4
          by_cases e : (121 * x + 11 * p + q).toNat = (121 * gs G (sM_rule M1) d + 11 * pp + qq).toNat
          · have e1 : x = gs G (sM_rule M1) d := by omega
            have e2 : p = pp := by omega
            have e3 : q = qq := by omega
            rw [e1, e2, e3]
            exact Or.inr kd
          · rw [sA_ne e] at b4'
            exact hs2 x p q ⟨b1, b2, b3, b4'⟩
      · rw [if_neg e5]
        refine ⟨fun _ => b114_44 ⟨⟨by omega, by omega⟩, ih M2 ⟨hf2, hu2, hm2, fun d' a1 a2 a3 => ?_, hs2⟩⟩, fun g => absurd (by omega) g⟩
        by_cases ed : d' = d
        · subst ed; exact absurd a3 e5
        · exact hd2 d' a1 (by omega) a3
    · rintro M2 ⟨hf2, hu2, hm2, hd2, hs2⟩
      have e18 : sM_maker M2 = sM_maker M1 := hf2.1 18 (by decide)
      have e19 : sM_from M2 = sM_from M1 := hf2.1 19 (by decide)
      have e20 : sM_to M2 = sM_to M1 := hf2.1 20 (by decide)
      have e21 : sM_rule M2 = sM_rule M1 := hf2.1 21 (by decide)
      have e22 : sM_one M2 = sM_one M1 := hf2.1 22 (by decide)
      have e23 : sM_two M2 = sM_two M1 := hf2.1 23 (by decide)
      have e24 : sM_three M2 = sM_three M1 := hf2.1 24 (by decide)
      have esz : aM_sizes M2 (sM_rule M2).toNat = gz G (sM_rule M1) := by
        rw [e21]
        exact (congrFun ((hf2.2 32 (by decide)).trans (hp.1.2 32 (by decide))) _).trans (hM.2 _ hr r1).2.1
      refine b114_12 ⟨by rw [e21]; omega, fun _ => nxt M2 ?_ ?_ ⟨hp.1.trans (hf2.mono (by decide) (by decide)), hu2, fun x p q hx => hm2 x p q (hp.2.2.1 x p q hx), fun r a b c d hF2 hlt a1 a2 a3 => ?_, fun x p q hx => ?_⟩, fun g => absurd (by rw [esz]; omega) g⟩
      · unfold itR
        rw [e18, e19, e20, e21, e22, e23, e24]
        exact hI
      · unfold cur
        rw [e21, e22, e23, e24]
      · by_cases e : (1331 * r + 121 * a + 11 * b + c) < cur M1
        · exact hm2 _ _ _ (hp.2.2.2.1 r a b c d hF2 e a1 a2 a3)
        · have v1 := hF2.1.rng hG ⟨hij.1, hij.2.1, by omega⟩
          have v2 := hF.1.rng hG ⟨hij.1, hij.2.1, by omega⟩
          have e1 : r = sM_rule M1 := by omega
          have e2 : a = sM_one M1 := by omega
          have e3 : b = sM_two M1 := by omega
          have e4 : c = sM_three M1 := by omega
          rw [e1] at a2 a3
          rw [e1, e2, e3, e4]
          exact hd2 d a1 a2 a3
      · rcases hs2 x p q hx with h1 | h1
        · exact hp.2.2.2.2 x p q h1
        · exact Or.inr h1
  · intro M1 hp
    refine b114_6 ⟨fun _ => h M1 hp.1 hp.2.1 hp.2.2.1 (fun x p q hk => ?_) hp.2.2.2.2, fun g => absurd rfl g⟩
    obtain ⟨r, a, b, c, d, hF, d0, d1, d2, rfl, rfl, rfl⟩ := hk
    have := hF.1.rng hG ⟨hij.1, hij.2.1, by omega⟩
    exact hp.2.2.2.1 r a b c d hF (by omega) d0 d1 d2
  · have := hF.1.rng hG ⟨hij.1, hij.2.1, by omega⟩
    omega
end US
