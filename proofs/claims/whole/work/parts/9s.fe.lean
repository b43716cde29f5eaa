/-! The model: isEmptyFrom, findEmpty -/
/-- the model knows which makers stand for nothing -/
def EMP (G : gT) (M : ev_M) : Prop := ∀ m : Int, 0 ≤ m → m < 6 → (aM_empty M m.toNat = 0 ∧ ¬ nul G m) ∨ (aM_empty M m.toNat = 1 ∧ nul G m)
def eR (M : ev_M) : Prop := ∀ k : Nat, k < 6 → aM_empty M k = 0 ∨ aM_empty M k = 1
/-- rule r is empty from dot d, as far as the row says -/
def eF (G : gT) (M : ev_M) (r d : Int) : Prop := ∀ k : Int, d ≤ k → k < gz G r → gs G r k < 6 ∧ aM_empty M (gs G r k).toNat = 1
section FE
variable {G : gT} {M M' : ev_M} {r d : Int}
theorem g_m104 {Q : Int → ev_M → Prop} (hG : okG G) (hM : isM G M) (hE : eR M) (hr : 0 ≤ r ∧ r < gn G) (hd : 0 ≤ d ∧ d ≤ gz G r) (h1 : eF G M r d → Q 1 M) (h0 : ¬ eF G M r d → Q 0 M) : m104 r d M Q := by
  have gc := hG.1
  have hg := hG.2 r hr.1 hr.2
  obtain ⟨-, esz, esy⟩ := hM.2 r hr.1 hr.2
  refine b104 ?_
  refine lp (σ := Int) (n := gz G r) (c := fun k t => c104_5 r t k M Q) (P := fun k t => d ≤ k ∧ ((t = 1 ∧ ∀ k' : Int, d ≤ k' → k' < k → gs G r k' < 6 ∧ aM_empty M (gs G r k').toNat = 1) ∨ (t = 0 ∧ ¬ eF G M r d))) ?_ ?_ hd.1 hd.2 ⟨by omega, Or.inl ⟨rfl, fun k' a1 a2 => by omega⟩⟩
  · rintro k t k0 k1 ⟨hdk, ht⟩ ih
    have hsy := hg.2.2 k k0 k1
    have esk : aM_right M (4 * r + k).toNat = gs G r k := esy k k0 k1
    have no : ¬ eF G M r d → c104_59 r k M Q := fun hn => b104_59 (b104_60 ⟨⟨by omega, by omega⟩, ih 0 ⟨by omega, Or.inr ⟨rfl, hn⟩⟩⟩)
    refine b104_5 ⟨⟨by omega, by omega⟩, fun g => absurd g (by rw [esz]; omega), fun _ => ⟨fun g => no ?_, fun g => ⟨⟨by omega, by omega⟩, ⟨by omega, by omega⟩, ⟨by omega, by omega⟩, ?_⟩⟩⟩
    · rcases ht with ⟨e, -⟩ | ⟨-, hn⟩
      · omega
      · exact hn
    · rw [esk]
      have ht1 : ∀ k' : Int, d ≤ k' → k' < k → gs G r k' < 6 ∧ aM_empty M (gs G r k').toNat = 1 := by
        rcases ht with ⟨-, hn⟩ | ⟨e, -⟩
        · exact hn
        · exact absurd e g
      refine ⟨fun g6 => no (fun hF => ?_), fun g6 => ⟨⟨by omega, by omega⟩, ⟨by omega, by omega⟩, ⟨by omega, by omega⟩, ⟨hsy.1, by omega⟩, fun ge => no (fun hF => ?_), fun ge => b104_60 ⟨⟨by omega, by omega⟩, ih 1 ⟨by omega, Or.inl ⟨rfl, fun k' a1 a2 => ?_⟩⟩⟩⟩⟩
      · have := (hF k hdk k1).1
        omega
      · have := (hF k hdk k1).2
        omega
      · by_cases e : k' = k
        · subst e
          refine ⟨by omega, ?_⟩
          rcases hE (gs G r k').toNat (by omega) with h | h
          · exact absurd h ge
          · exact h
        · exact ht1 k' a1 (by omega)
  · rintro t ⟨-, ht⟩
    refine b104_5 ⟨⟨by omega, by omega⟩, fun _ => ?_, fun g => absurd (by rw [esz]; omega) g⟩
    rcases ht with ⟨e, ha⟩ | ⟨e, hn⟩
    · subst e; exact ⟨Or.inr rfl, h1 ha⟩
    · subst e; exact ⟨Or.inl rfl, h0 hn⟩
def ecn (M : ev_M) : Nat := cntB (fun k => decide (aM_empty M k = 1)) 6
/-- the row is right as far as it says yes -/
def eS (G : gT) (M : ev_M) : Prop := eR M ∧ ∀ m : Int, 0 ≤ m → m < 6 → aM_empty M m.toNat = 1 → nul G m
def eC (G : gT) (M : ev_M) : Prop := ∀ r : Int, 0 ≤ r → r < gn G → eF G M r 0 → aM_empty M (gl G r).toNat = 1
theorem eC.all (hG : okG G) (h : eC G M) {m : Int} (hn : nul G m) : (0 ≤ m ∧ m < 6) ∧ aM_empty M m.toNat = 1 :=
  hn (fun m => (0 ≤ m ∧ m < 6) ∧ aM_empty M m.toNat = 1) (fun r r0 r1 hd => ⟨(hG.2 r r0 r1).1, h r r0 r1 (fun k k0 k1 => ⟨(hd k k0 k1).1, (hd k k0 k1).2.2⟩)⟩)
theorem g_m105 {Q : ev_M → Prop} (hG : okG G) (hM : isM G M) (h : ∀ M' : ev_M, fr [] [38] M M' → EMP G M' → Q M') : m105 M Q := by
  have gc := hG.1
  refine b105 ?_
  refine lp (σ := ev_M) (n := 6) (c := fun k M1 => c105_2 k M1 Q) (P := fun k M1 => fr [] [38] M M1 ∧ ∀ q : Nat, (q : Int) < k → aM_empty M1 q = 0) ?_ ?_ (by omega) (by omega) ⟨fr.refl, fun q hq => by omega⟩
  · rintro k M1 k0 k1 ⟨hf, hz⟩ ih
    refine b105_2 ⟨fun g => absurd g (by omega), fun _ => ⟨⟨k0, k1⟩, ⟨by omega, by omega⟩, ih _ ⟨hf.sA (by decide), fun q hq => ?_⟩⟩⟩
    show (ev_sA M1 38 k.toNat 0).2 38 q = 0
    by_cases e : q = k.toNat
    · rw [e, sA_same]
    · rw [sA_ne e]; exact hz q (by omega)
  · rintro M1 ⟨hf, hz⟩
    refine b105_2 ⟨fun _ => ?_, fun g => absurd (by omega) g⟩
    refine lp (σ := ev_M) (n := 6) (c := fun t M1 => c105_23 t M1 Q) (P := fun t M1 => fr [] [38] M M1 ∧ eS G M1 ∧ (eC G M1 ∨ t ≤ (ecn M1 : Int))) ?_ ?_ (by omega) (by omega) ⟨hf, ⟨fun k hk => Or.inl (hz k (by omega)), fun m m0 m1 he => by rw [hz m.toNat (by omega)] at he; omega⟩, Or.inr (by omega)⟩
    · rintro t M1 t0 t1 ⟨hf, hS, ht⟩ ih
      refine b105_23 ⟨fun g => absurd g (by omega), fun _ => ?_⟩
      refine lp (σ := ev_M) (n := gn G) (c := fun r M2 => c105_31 t r M2 Q) (P := fun r M2 => fr [] [38] M M2 ∧ eS G M2 ∧ (∀ k : Nat, k < 6 → aM_empty M1 k = 1 → aM_empty M2 k = 1) ∧ ∀ r' : Int, 0 ≤ r' → r' < r → eF G M1 r' 0 → aM_empty M2 (gl G r').toNat = 1) ?_ ?_ (by omega) gc.1 ⟨hf, hS, fun _ _ h => h, fun r' a1 a2 => by omega⟩
      · rintro r M2 r0 r1 ⟨hf2, hS2, hm2, hc2⟩ ihr
        have hM2 : isM G M2 := hM.of (hf2.1 11 (by decide)) (hf2.2 31 (by decide)) (hf2.2 32 (by decide)) (hf2.2 33 (by decide))
        have hgr := hG.2 r r0 r1
        have el : aM_left M2 r.toNat = gl G r := (hM2.2 r r0 r1).1
        have e11 := hM2.1
        have one : nul G (gl G r) → c105_72 t r (gl G r) M2 Q := by
          intro hnl
          refine b105_72 (b105_77 ⟨hgr.1, Or.inr rfl, ⟨by omega, by omega⟩, ihr _ ⟨hf2.sA (by decide), ⟨fun q hq => ?_, fun m m0 m1 he => ?_⟩, fun q hq he => ?_, fun r' a1 a2 he => ?_⟩⟩)
          · show (ev_sA M2 38 (gl G r).toNat 1).2 38 q = 0 ∨ (ev_sA M2 38 (gl G r).toNat 1).2 38 q = 1
            by_cases e : q = (gl G r).toNat
            · rw [e, sA_same]; exact Or.inr rfl
            · rw [sA_ne e]; exact hS2.1 q hq
          · by_cases e : m.toNat = (gl G r).toNat
            · rw [show m = gl G r by omega]; exact hnl
            · have he' : (ev_sA M2 38 (gl G r).toNat 1).2 38 m.toNat = 1 := he
              rw [sA_ne e] at he'
              exact hS2.2 m m0 m1 he'
          · show (ev_sA M2 38 (gl G r).toNat 1).2 38 q = 1
            by_cases e : q = (gl G r).toNat
            · rw [e, sA_same]
            · rw [sA_ne e]; exact hm2 q hq he
          · show (ev_sA M2 38 (gl G r).toNat 1).2 38 (gl G r').toNat = 1
            by_cases e : (gl G r').toNat = (gl G r).toNat
            · rw [e, sA_same]
            · rw [sA_ne e]
              by_cases e2 : r' = r
              · subst e2; exact absurd rfl e
              · exact hc2 r' a1 (by omega) he
        refine b105_31 ⟨fun g => absurd g (by omega), fun _ => ⟨⟨r0, by omega⟩, ⟨r0, by omega⟩, ?_⟩⟩
        rw [el]
        refine ⟨hgr.1, fun g => one ?_, fun g => g_m104 hG hM2 hS2.1 ⟨r0, r1⟩ ⟨by omega, hgr.2.1.1⟩ (fun hF => ⟨fun g => absurd g (by decide), fun _ => one ?_⟩) (fun hF => ⟨fun _ => ?_, fun g => absurd rfl g⟩)⟩
        · rcases hS2.1 (gl G r).toNat (by omega) with h | h
          · exact absurd h g
          · exact hS2.2 _ hgr.1.1 hgr.1.2 h
        · exact nul.rule r0 r1 (fun d d0 d1 => ⟨(hF d d0 d1).1, hS2.2 _ (hgr.2.2 d d0 d1).1 (hF d d0 d1).1 (hF d d0 d1).2⟩)
        · have e0 : aM_empty M2 (gl G r).toNat = 0 := Decidable.of_not_not g
          have eid : ev_sA M2 38 (gl G r).toNat 0 = M2 := by
            rw [← e0]; exact sA_id
          refine b105_77 ⟨hgr.1, Or.inl rfl, ⟨by omega, by omega⟩, ?_⟩
          rw [eid]
          refine ihr M2 ⟨hf2, hS2, hm2, fun r' a1 a2 he => ?_⟩
          by_cases e2 : r' = r
          · subst e2
            refine absurd (fun k k0 k1 => ?_) hF
            have := he k k0 k1
            exact ⟨this.1, hm2 _ (by have := (hgr.2.2 k k0 k1).1; omega) this.2⟩
          · exact hc2 r' a1 (by omega) he
      · rintro M2 ⟨hf2, hS2, hm2, hc2⟩
        have e11 : sM_rules M2 = gn G := (hf2.1 11 (by decide)).trans hM.1
        refine b105_31 ⟨fun _ => ⟨⟨by omega, by omega⟩, ih M2 ⟨hf2, hS2, ?_⟩⟩, fun g => absurd (by omega) g⟩
        have step : (∀ k : Nat, k < 6 → aM_empty M2 k = 1 → aM_empty M1 k = 1) → eC G M2 := by
          intro hsame r r0 r1 hF
          refine hc2 r r0 r1 (fun k k0 k1 => ⟨(hF k k0 k1).1, hsame _ ?_ (hF k k0 k1).2⟩)
          have := (hF k k0 k1).1
          have := ((hG.2 r r0 r1).2.2 k k0 k1).1
          omega
        by_cases hsame : ∀ k : Nat, k < 6 → aM_empty M2 k = 1 → aM_empty M1 k = 1
        · exact Or.inl (step hsame)
        · rcases ht with hcl | hle
          · refine absurd (fun k hk he => ?_) hsame
            have := (hcl.all hG (hS2.2 (k : Int) (by omega) (by omega) (by rw [show ((k : Int)).toNat = k by omega]; exact he))).2
            rw [show ((k : Int)).toNat = k by omega] at this
            exact this
          · refine Or.inr ?_
            have hex : ∃ k : Nat, k < 6 ∧ aM_empty M2 k = 1 ∧ ¬ aM_empty M1 k = 1 := by
              refine Classical.byContradiction (fun hno => hsame (fun k hk he => ?_))
              exact Classical.byContradiction (fun hne => hno ⟨k, hk, he, hne⟩)
            obtain ⟨k, k1, k2, k3⟩ := hex
            have : ecn M1 < ecn M2 := cntB_lt (k := k) (fun q hq hb => decide_eq_true (hm2 q hq (of_decide_eq_true hb))) k1 (decide_eq_false k3) (decide_eq_true k2)
            omega
    · rintro M1 ⟨hf, hS, ht⟩
      have hcl : eC G M1 := by
        rcases ht with h | h
        · exact h
        · have h6 : ecn M1 ≤ 6 := cntB_le
          have hfull := cntB_full (f := fun k => decide (aM_empty M1 k = 1)) (n := 6) (show ecn M1 = 6 by omega)
          intro r r0 r1 _
          have := (hG.2 r r0 r1).1
          exact of_decide_eq_true (hfull (gl G r).toNat (by omega))
      refine b105_23 ⟨fun _ => h M1 hf (fun m m0 m1 => ?_), fun g => absurd (by omega) g⟩
      rcases hS.1 m.toNat (by omega) with he | he
      · refine Or.inl ⟨he, fun hn => ?_⟩
        have := (hcl.all hG hn).2
        omega
      · exact Or.inr ⟨he, hS.2 m m0 m1 he⟩
end FE
