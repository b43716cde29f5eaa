/-! The model: going through the families of a node -/
/-- a rule of m with its cuts in their form -/
abbrev vt (G : gT) (m f t r a b c : Int) : Prop := (0 ≤ r ∧ r < gn G) ∧ gl G r = m ∧ (gz G r < 2 → a = t) ∧ (2 ≤ gz G r → f ≤ a ∧ a ≤ t) ∧ (gz G r < 3 → b = t) ∧ (3 ≤ gz G r → a ≤ b ∧ b ≤ t) ∧ (gz G r < 4 → c = t) ∧ (4 ≤ gz G r → b ≤ c ∧ c ≤ t)
/-- where the model's walk through the families stands -/
def cur (M : ev_M) : Int := if sM_rule M < 0 then -1 else (1331 * (sM_rule M) + 121 * (sM_one M) + 11 * (sM_two M) + (sM_three M))
/-- the walk stands at a rule with cuts, or before all -/
def itR (G : gT) (m f t : Int) (M : ev_M) : Prop := sM_maker M = m ∧ sM_from M = f ∧ sM_to M = t ∧ (sM_rule M = -1 ∨ vt G m f t (sM_rule M) (sM_one M) (sM_two M) (sM_three M))
abbrev itS : List Nat := [21, 22, 23, 24]
section IT2
variable {G : gT} {m f t : Int} {M : ev_M}
theorem vt.rng (hG : okG G) (hf : 0 ≤ f ∧ f ≤ t ∧ t ≤ 10) {r a b c : Int} (h : vt G m f t r a b c) : (0 ≤ r ∧ r < 14) ∧ (0 ≤ a ∧ a ≤ 10) ∧ (0 ≤ b ∧ b ≤ 10) ∧ (0 ≤ c ∧ c ≤ 10) ∧ 0 ≤ (1331 * r + 121 * a + 11 * b + c) ∧ (1331 * r + 121 * a + 11 * b + c) < 18634 := by
  obtain ⟨h1, h2, h3, h4, h5, h6, h7, h8⟩ := h
  have := hG.1
  have g := (hG.2 r h1.1 h1.2).2.1
  have ha : 0 ≤ a ∧ a ≤ 10 := by
    by_cases e : gz G r < 2
    · have := h3 e; omega
    · have := h4 (by omega); omega
  have hb : 0 ≤ b ∧ b ≤ 10 := by
    by_cases e : gz G r < 3
    · have := h5 e; omega
    · have := h6 (by omega); omega
  have hc : 0 ≤ c ∧ c ≤ 10 := by
    by_cases e : gz G r < 4
    · have := h7 e; omega
    · have := h8 (by omega); omega
  refine ⟨by omega, ha, hb, hc, by omega, by omega⟩
/-- the first cuts of a rule, from the free-th on -/
theorem g_m106 {x : Int} {Q : ev_M → Prop} (hr : 0 ≤ sM_rule M ∧ sM_rule M < 14) {z : Int} (hz : aM_sizes M (sM_rule M).toNat = z) (h : ∀ a b c : Int, a = (if 0 < x then sM_one M else if z < 2 then sM_to M else sM_from M) → b = (if 1 < x then sM_two M else if z < 3 then sM_to M else a) → c = (if z < 4 then sM_to M else b) → Q (ev_sS (ev_sS (ev_sS M 22 a) 23 b) 24 c)) : m106 x M Q := by
  subst hz
  have k3 : ∀ a b : Int, a = (if 0 < x then sM_one M else if aM_sizes M (sM_rule M).toNat < 2 then sM_to M else sM_from M) → b = (if 1 < x then sM_two M else if aM_sizes M (sM_rule M).toNat < 3 then sM_to M else a) → c106_70 (aM_sizes M (sM_rule M).toNat) b (ev_sS M 22 a) Q := by
    intro a b ha hb
    refine b106_70 ⟨fun g => b106_90 (h a b b ha hb (by rw [if_neg (by omega)])), fun g => b106_90 (h a b _ ha hb (by rw [if_pos (by omega)]; rfl))⟩
  have k2 : ∀ a : Int, a = (if 0 < x then sM_one M else if aM_sizes M (sM_rule M).toNat < 2 then sM_to M else sM_from M) → c106_38 x (aM_sizes M (sM_rule M).toNat) a M Q := by
    intro a ha
    refine b106_38 ⟨fun g => ⟨fun g2 => k3 a a ha (by rw [if_neg (by omega), if_neg (by omega)]), fun g2 => k3 a _ ha (by rw [if_neg (by omega), if_pos (by omega)])⟩, fun g => k3 a _ ha (by rw [if_pos (by omega)])⟩
  exact b106 ⟨hr, fun g => ⟨fun g2 => k2 _ (by rw [if_neg (by omega), if_neg (by omega)]), fun g2 => k2 _ (by rw [if_neg (by omega), if_pos (by omega)])⟩, fun g => k2 _ (by rw [if_pos (by omega)])⟩
set_option maxHeartbeats 4000000 in
/-- the next rule with its cuts -/
theorem g_m107 {Q : Int → ev_M → Prop} (hG : okG G) (hM : isM G M) (hf : 0 ≤ f ∧ f ≤ t ∧ t ≤ 10) (hI : itR G m f t M)
    (h1 : ∀ M' : ev_M, fr itS [] M M' → 0 ≤ sM_rule M' → itR G m f t M' → cur M < cur M' → (∀ r a b c : Int, vt G m f t r a b c → cur M < (1331 * r + 121 * a + 11 * b + c) → cur M' ≤ (1331 * r + 121 * a + 11 * b + c)) → Q 1 M')
    (h0 : ∀ M' : ev_M, fr itS [] M M' → (∀ r a b c : Int, vt G m f t r a b c → (1331 * r + 121 * a + 11 * b + c) ≤ cur M) → Q 0 M') : m107 M Q := by
  have gc := hG.1
  obtain ⟨im, iF, iT, ir⟩ := hI
  have e11 := hM.1
  -- the step to the next rule
  have nxt : (∀ a b c : Int, vt G m f t (sM_rule M) a b c → (1331 * (sM_rule M) + 121 * a + 11 * b + c) ≤ cur M) → (-1 ≤ sM_rule M ∧ sM_rule M < gn G) → 1331 * sM_rule M ≤ cur M → cur M < 1331 * (sM_rule M + 1) → c107_118 M Q := by
    intro hlast hr hc1 hc2
    refine b107_118 ⟨⟨by omega, by omega⟩, ?_⟩
    have loop : ∀ (k : Nat) (r : Int) (M1 : ev_M), gn G - r ≤ k → sM_rule M < r → r ≤ gn G → fr itS [] M M1 → sM_rule M1 = r → (∀ r' : Int, sM_rule M < r' → r' < r → gl G r' ≠ m) → c107_128 M1 Q := by
      have endd : ∀ M1 : ev_M, fr itS [] M M1 → sM_rule M1 = gn G → (∀ r' : Int, sM_rule M < r' → r' < gn G → gl G r' ≠ m) → c107_128 M1 Q := by
        intro M1 hf1 hr1 hno
        have e11' : sM_rules M1 = gn G := (hf1.1 11 (by decide)).trans e11
        refine b107_128 ⟨fun _ => b107_168 ⟨fun g => absurd (by omega) g, fun _ => h0 M1 hf1 (fun r a b c hv => ?_)⟩, fun g => absurd (by omega) g⟩
        have hv2 := hv.rng hG hf
        by_cases e : sM_rule M < r
        · exact absurd hv.2.1 (hno r e hv.1.2)
        · by_cases e2 : r = sM_rule M
          · subst e2; exact hlast a b c hv
          · omega
      intro k
      induction k with
      | zero =>
        intro r M1 hk hr0 hr1 hf1 er hno
        have e : r = gn G := by omega
        subst e
        exact endd M1 hf1 er hno
      | succ k ih =>
        intro r M1 hk hr0 hr1 hf1 er hno
        by_cases e : r = gn G
        · subst e; exact endd M1 hf1 er hno
        · have hM1 : isM G M1 := hM.of (hf1.1 11 (by decide)) (hf1.2 31 (by decide)) (hf1.2 32 (by decide)) (hf1.2 33 (by decide))
          have e11' : sM_rules M1 = gn G := hM1.1
          have e18 : sM_maker M1 = m := (hf1.1 18 (by decide)).trans im
          have e19 : sM_from M1 = f := (hf1.1 19 (by decide)).trans iF
          have e20 : sM_to M1 = t := (hf1.1 20 (by decide)).trans iT
          have r0 : 0 ≤ r := by omega
          obtain ⟨el, ez, -⟩ := hM1.2 r r0 (by omega)
          have g := (hG.2 r r0 (by omega)).2.1
          refine b107_128 ⟨fun g => absurd g (by omega), fun _ => ⟨⟨by omega, by omega⟩, fun heq => ?_, fun hne => ⟨⟨by omega, by omega⟩, ih (r + 1) _ (by omega) (by omega) (by omega) (hf1.sS (by decide)) (by show sM_rule M1 + 1 = r + 1; omega) (fun r' a1 a2 => ?_)⟩⟩⟩
          · rw [er, el, e18] at heq
            refine b107_168 ⟨fun _ => g_m106 (z := gz G r) (by omega) (by rw [er]; exact ez) (fun a b c ha hb hc => b107_186 ?_), fun g => absurd (by omega) g⟩
            rw [e19, e20, if_neg (by omega)] at ha
            rw [e20, if_neg (by omega)] at hb
            rw [e20] at hc
            have hv : vt G m f t r a b c := by
              refine ⟨⟨r0, by omega⟩, heq, fun h => by rw [if_pos h] at ha; exact ha, fun h => ?_, fun h => by rw [if_pos h] at hb; exact hb, fun h => ?_, fun h => by rw [if_pos h] at hc; exact hc, fun h => ?_⟩
              · rw [if_neg (by omega)] at ha; omega
              · rw [if_neg (by omega)] at ha; rw [if_neg (by omega)] at hb; omega
              · rw [if_neg (by omega)] at ha; rw [if_neg (by omega)] at hb; rw [if_neg (by omega)] at hc; omega
            have hv2 := hv.rng hG hf
            have ecur : cur (ev_sS (ev_sS (ev_sS M1 22 a) 23 b) 24 c) = (1331 * r + 121 * a + 11 * b + c) := by
              show (if sM_rule M1 < 0 then -1 else (1331 * (sM_rule M1) + 121 * a + 11 * b + c)) = _
              rw [er, if_neg (by omega)]
            refine h1 _ (((hf1.sS (by decide)).sS (by decide)).sS (by decide)) (by show 0 ≤ sM_rule M1; omega) ⟨e18, e19, e20, Or.inr ?_⟩ (by rw [ecur]; omega) (fun r2 a2 b2 c2 hv3 hlt => ?_)
            · show vt G m f t (sM_rule M1) a b c
              rw [er]; exact hv
            · rw [ecur]
              have hv4 := hv3.rng hG hf
              have hr2 : r ≤ r2 := by
                refine Decidable.byContradiction (fun hn => ?_)
                by_cases e3 : sM_rule M < r2
                · exact hno r2 e3 (by omega) hv3.2.1
                · by_cases e4 : r2 = sM_rule M
                  · rw [e4] at hv3 hlt
                    have := hlast a2 b2 c2 hv3
                    omega
                  · omega
              by_cases e5 : r2 = r
              · subst e5
                obtain ⟨-, -, v3, v4, v5, v6, v7, v8⟩ := hv3
                by_cases z2 : gz G r2 < 2
                · rw [if_pos z2] at ha; rw [if_pos (by omega)] at hb; rw [if_pos (by omega)] at hc
                  have := v3 z2; have := v5 (by omega); have := v7 (by omega); omega
                · rw [if_neg z2] at ha
                  have := v4 (by omega)
                  by_cases z3 : gz G r2 < 3
                  · rw [if_pos z3] at hb; rw [if_pos (by omega)] at hc
                    have := v5 z3; have := v7 (by omega); omega
                  · rw [if_neg z3] at hb
                    have := v6 (by omega)
                    by_cases z4 : gz G r2 < 4
                    · rw [if_pos z4] at hc
                      have := v7 z4; omega
                    · rw [if_neg z4] at hc
                      have := v8 (by omega); omega
              · omega
          · by_cases e2 : r' = r
            · rw [e2]; rw [er, el, e18] at hne; exact hne
            · exact hno r' a1 (by omega)
    exact loop (gn G - (sM_rule M + 1)).toNat (sM_rule M + 1) _ (by omega) (by omega) (by omega) (fr.refl.sS (by decide)) rfl (fun r' a1 a2 => by omega)
  rcases ir with er | hv
  · have ec : cur M = -1 := if_pos (by omega)
    refine b107 ⟨fun g => absurd g (by omega), fun _ => b107_20 ⟨fun _ => b107_50 ⟨fun _ => b107_84 ⟨fun _ => nxt (fun a b c hv => ?_) (by omega) (by omega) (by omega), fun g => absurd (by omega) g⟩, fun g => absurd (by omega) g⟩, fun g => absurd (by omega) g⟩⟩
    have := hv.1.1
    omega
  · have hv2 := hv.rng hG hf
    have hv' := hv
    obtain ⟨⟨r0, r1⟩, vl, v3, v4, v5, v6, v7, v8⟩ := hv
    have ec : cur M = (1331 * (sM_rule M) + 121 * (sM_one M) + 11 * (sM_two M) + (sM_three M)) := if_neg (by omega)
    obtain ⟨-, ez, -⟩ := hM.2 (sM_rule M) r0 r1
    have g := (hG.2 _ r0 r1).2.1
    have r14 : sM_rule M < 14 := by omega
    -- no cuts left
    have last : (gz G (sM_rule M) < 4 ∨ t ≤ sM_three M) → (gz G (sM_rule M) < 3 ∨ t ≤ sM_two M) → (gz G (sM_rule M) < 2 ∨ t ≤ sM_one M) → c107_118 M Q := by
      intro l3 l2 l1
      refine nxt (fun a b c hw => ?_) (by omega) (by omega) (by omega)
      have hw2 := hw.rng hG hf
      obtain ⟨-, -, w3, w4, w5, w6, w7, w8⟩ := hw
      rw [ec]
      have a1 : a ≤ sM_one M := by
        by_cases z2 : gz G (sM_rule M) < 2
        · have := v3 z2; have := w3 z2; omega
        · have := w4 (by omega); omega
      have a2 : b ≤ sM_two M := by
        by_cases z2 : gz G (sM_rule M) < 3
        · have := v5 z2; have := w5 z2; omega
        · have := w6 (by omega); omega
      have a3 : c ≤ sM_three M := by
        by_cases z2 : gz G (sM_rule M) < 4
        · have := v7 z2; have := w7 z2; omega
        · have := w8 (by omega); omega
      omega
    have one : (gz G (sM_rule M) < 4 ∨ t ≤ sM_three M) → (gz G (sM_rule M) < 3 ∨ t ≤ sM_two M) → c107_84 (gz G (sM_rule M)) M Q := by
      intro l3 l2
      refine b107_84 ⟨fun z1 => last l3 l2 (Or.inl (by omega)), fun z1 => ⟨fun g1 => last l3 l2 (Or.inr (by omega)), fun g1 => ⟨⟨by omega, by omega⟩, ?_⟩⟩⟩
      refine g_m106 (z := gz G (sM_rule M)) (M := ev_sS M 22 (sM_one M + 1)) ⟨r0, r14⟩ ez (fun a b c ha hb hc => b107_186 ?_)
      have ha' : a = sM_one M + 1 := by rw [if_pos (by omega)] at ha; exact ha
      have hb' : b = if gz G (sM_rule M) < 3 then t else a := by rw [if_neg (by omega)] at hb; rw [← iT]; exact hb
      have hc' : c = if gz G (sM_rule M) < 4 then t else b := by rw [← iT]; exact hc
      have v4' := v4 (by omega)
      have nv : vt G m f t (sM_rule M) a b c := by
        refine ⟨⟨r0, r1⟩, vl, fun h => by omega, fun h => by omega, fun h => by rw [if_pos h] at hb'; exact hb', fun h => ?_, fun h => by rw [if_pos h] at hc'; exact hc', fun h => ?_⟩
        · rw [if_neg (by omega)] at hb'; omega
        · rw [if_neg (by omega)] at hb' hc'; omega
      have nr := nv.rng hG hf
      have ecur : cur (ev_sS (ev_sS (ev_sS (ev_sS M 22 (sM_one M + 1)) 22 a) 23 b) 24 c) = (1331 * (sM_rule M) + 121 * a + 11 * b + c) := if_neg (show ¬ sM_rule M < 0 by omega)
      refine h1 _ ((((fr.refl.sS (by decide)).sS (by decide)).sS (by decide)).sS (by decide)) r0 ⟨im, iF, iT, Or.inr nv⟩ (by rw [ecur, ec]; omega) (fun r2 a2 b2 c2 hw hlt => ?_)
      rw [ecur]; rw [ec] at hlt
      have hw2 := hw.rng hG hf
      by_cases er : r2 = sM_rule M
      · subst er
        obtain ⟨-, -, w3, w4, w5, w6, w7, w8⟩ := hw
        have := w4 (by omega)
        by_cases ea : a2 ≤ sM_one M
        · have ea2 : a2 = sM_one M := by omega
          have b2l : b2 ≤ sM_two M := by
            by_cases z2 : gz G (sM_rule M) < 3
            · have := v5 z2; have := w5 z2; omega
            · have := w6 (by omega); omega
          have c2l : c2 ≤ sM_three M := by
            by_cases z2 : gz G (sM_rule M) < 4
            · have := v7 z2; have := w7 z2; omega
            · have := w8 (by omega); omega
          omega
        · by_cases ea2 : a2 = a
          · by_cases z3 : gz G (sM_rule M) < 3
            · rw [if_pos z3] at hb'; rw [if_pos (by omega)] at hc'
              have := w5 z3; have := w7 (by omega); omega
            · rw [if_neg z3] at hb'
              have := w6 (by omega)
              by_cases z4 : gz G (sM_rule M) < 4
              · rw [if_pos z4] at hc'
                have := w7 z4; omega
              · rw [if_neg z4] at hc'
                have := w8 (by omega); omega
          · omega
      · omega
    have two : (gz G (sM_rule M) < 4 ∨ t ≤ sM_three M) → c107_50 (gz G (sM_rule M)) M Q := by
      intro l3
      refine b107_50 ⟨fun z1 => one l3 (Or.inl (by omega)), fun z1 => ⟨fun g1 => one l3 (Or.inr (by omega)), fun g1 => ⟨⟨by omega, by omega⟩, ?_⟩⟩⟩
      refine g_m106 (z := gz G (sM_rule M)) (M := ev_sS M 23 (sM_two M + 1)) ⟨r0, r14⟩ ez (fun a b c ha hb hc => b107_186 ?_)
      have ha' : a = sM_one M := by rw [if_pos (by omega)] at ha; exact ha
      have hb' : b = sM_two M + 1 := by rw [if_pos (by omega)] at hb; exact hb
      have hc' : c = if gz G (sM_rule M) < 4 then t else b := by rw [← iT]; exact hc
      have v4' := v4 (by omega)
      have v6' := v6 (by omega)
      have nv : vt G m f t (sM_rule M) a b c := by
        refine ⟨⟨r0, r1⟩, vl, fun h => by omega, fun h => by omega, fun h => by omega, fun h => by omega, fun h => by rw [if_pos h] at hc'; exact hc', fun h => ?_⟩
        rw [if_neg (by omega)] at hc'; omega
      have nr := nv.rng hG hf
      have ecur : cur (ev_sS (ev_sS (ev_sS (ev_sS M 23 (sM_two M + 1)) 22 a) 23 b) 24 c) = (1331 * (sM_rule M) + 121 * a + 11 * b + c) := if_neg (show ¬ sM_rule M < 0 by omega)
      refine h1 _ ((((fr.refl.sS (by decide)).sS (by decide)).sS (by decide)).sS (by decide)) r0 ⟨im, iF, iT, Or.inr nv⟩ (by rw [ecur, ec]; omega) (fun r2 a2 b2 c2 hw hlt => ?_)
      rw [ecur]; rw [ec] at hlt
      have hw2 := hw.rng hG hf
      by_cases er : r2 = sM_rule M
      · subst er
        obtain ⟨-, -, w3, w4, w5, w6, w7, w8⟩ := hw
        have := w6 (by omega)
        have c2l : gz G (sM_rule M) < 4 → c2 = t ∧ sM_three M = t := fun z => ⟨w7 z, v7 z⟩
        by_cases z4 : gz G (sM_rule M) < 4
        · rw [if_pos z4] at hc'
          have := c2l z4; omega
        · rw [if_neg z4] at hc'
          have w8' := w8 (by omega)
          have w4' := w4 (by omega)
          rcases (by omega : a2 < sM_one M ∨ a2 = sM_one M ∨ sM_one M < a2) with e | e | e
          · omega
          · rcases (by omega : b2 ≤ sM_two M ∨ sM_two M < b2) with e2 | e2
            · omega
            · omega
          · omega
      · omega
    refine b107 ⟨fun _ => ⟨⟨r0, by omega⟩, ?_⟩, fun g => absurd r0 g⟩
    rw [ez]
    refine b107_20 ⟨fun z1 => two (Or.inl (by omega)), fun z1 => ⟨fun g1 => two (Or.inr (by omega)), fun g1 => ⟨⟨by omega, by omega⟩, b107_186 ?_⟩⟩⟩
    have v4' := v4 (by omega)
    have v6' := v6 (by omega)
    have v8' := v8 (by omega)
    have nv : vt G m f t (sM_rule M) (sM_one M) (sM_two M) (sM_three M + 1) := ⟨⟨r0, r1⟩, vl, fun h => by omega, fun h => by omega, fun h => by omega, fun h => by omega, fun h => by omega, fun h => by omega⟩
    have ecur : cur (ev_sS M 24 (sM_three M + 1)) = (1331 * (sM_rule M) + 121 * (sM_one M) + 11 * (sM_two M) + (sM_three M + 1)) := if_neg (show ¬ sM_rule M < 0 by omega)
    refine h1 _ (fr.refl.sS (by decide)) r0 ⟨im, iF, iT, Or.inr nv⟩ (by rw [ecur, ec]; omega) (fun r2 a2 b2 c2 hw hlt => ?_)
    rw [ecur]; rw [ec] at hlt
    omega
end IT2
