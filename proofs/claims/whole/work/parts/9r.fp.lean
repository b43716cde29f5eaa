/-! The model: findParts -/
section FP
variable {G : gT} {n : Int} {w : Int → Int} {M M' : ev_M}
def msT (M : ev_M) : Nat := cntB (fun k => decide (aM_table M k = 1)) 1210
def ttM (M M' : ev_M) : Prop := ∀ k : Nat, k < 1210 → aM_table M k = 1 → aM_table M' k = 1
theorem ttM.tt {x i j : Int} (h : ttM M M') (ht : tt M x i j) : tt M' x i j := ⟨ht.1, ht.2.1, ht.2.2.1, h _ (by have := ht.1; have := ht.2.1; have := ht.2.2.1; omega) ht.2.2.2⟩
theorem msT_mono (h : ttM M M') : msT M ≤ msT M' := cntB_mono (fun k hk hb => decide_eq_true (h k hk (of_decide_eq_true hb)))
/-- what is closed before (i, j, r) -/
def tcl (G : gT) (n : Int) (M : ev_M) (i j r : Int) : Prop := ∀ i' j' r' : Int, 0 ≤ i' → i' ≤ j' → j' ≤ n → 0 ≤ r' → r' < gn G → (i' < i ∨ (i' = i ∧ (j' < j ∨ (j' = j ∧ r' < r)))) → pth G (tt M) r' (gz G r').toNat i' j' → tt M (gl G r') i' j'
/-- what the rounds keep -/
def tinv (G : gT) (n : Int) (w : Int → Int) (M M1 : ev_M) (i j r : Int) (s : Int × ev_M) : Prop := fr [] [39] M s.2 ∧ tS G n w s.2 ∧ ttM M1 s.2 ∧ ((s.1 = 0 ∧ s.2 = M1 ∧ tcl G n M1 i j r) ∨ (s.1 = 1 ∧ msT M1 < msT s.2))
theorem tinv.to {M1 : ev_M} {i j r i2 j2 r2 : Int} {s : Int × ev_M} (h : tinv G n w M M1 i j r s) (hs : ∀ i' j' r' : Int, 0 ≤ i' → i' ≤ j' → j' ≤ n → 0 ≤ r' → r' < gn G → (i' < i2 ∨ (i' = i2 ∧ (j' < j2 ∨ (j' = j2 ∧ r' < r2)))) → (i' < i ∨ (i' = i ∧ (j' < j ∨ (j' = j ∧ r' < r))))) : tinv G n w M M1 i2 j2 r2 s := by
  refine ⟨h.1, h.2.1, h.2.2.1, h.2.2.2.elim (fun h => Or.inl ⟨h.1, h.2.1, fun i' j' r' a1 a2 a3 a4 a5 a6 => h.2.2 i' j' r' a1 a2 a3 a4 a5 (hs i' j' r' a1 a2 a3 a4 a5 a6)⟩) Or.inr⟩
theorem g_m103 {Q : ev_M → Prop} (hG : okG G) (hT : okT n w) (hM : isM G M) (hY : isY n w M) (h : ∀ M' : ev_M, fr [] [39] M M' → PAR G n w M' → Q M') : m103 M Q := by
  have hn := hT.1
  have gc := hG.1
  have rounds : ∀ (k : Nat) (M1 : ev_M), 1210 - msT M1 < k → fr [] [39] M M1 → tS G n w M1 → (∀ p : Int, 0 ≤ p → p < n → tt M1 (w p) p (p + 1)) → c103_64 1 M1 Q := by
    intro k
    induction k with
    | zero => intro M1 hk; omega
    | succ k ihk =>
      intro M1 hk hf hS hw
      have hms : msT M1 ≤ 1210 := cntB_le
      refine b103_64 ⟨fun g => absurd g (by decide), fun _ => ?_⟩
      refine lp (σ := Int × ev_M) (n := n + 1) (c := fun i s => c103_72 s.1 i s.2 Q) (P := fun i s => tinv G n w M M1 i i 0 s) ?_ ?_ (r := 0) (s := (0, M1)) (by omega) (by omega) ⟨hf, hS, fun _ _ h => h, Or.inl ⟨rfl, rfl, fun i' j' r' a1 a2 a3 a4 a5 a6 => by omega⟩⟩
      · rintro i ⟨g, M2⟩ i0 i1 hP ih
        dsimp only at hP ih ⊢
        have e12 : sM_length M2 = n := (hP.1.1 12 (by decide)).trans hY.1
        refine b103_72 ⟨fun g => absurd g (by omega), fun _ => ?_⟩
        refine lp (σ := Int × ev_M) (n := n + 1) (c := fun j s => c103_82 s.1 i j s.2 Q) (P := fun j s => i ≤ j ∧ tinv G n w M M1 i j 0 s) ?_ ?_ (r := i) (s := (g, M2)) (by omega) (by omega) ⟨by omega, hP⟩
        · rintro j ⟨g, M2⟩ j0 j1 ⟨hij, hP⟩ ihj
          dsimp only at hP ihj ⊢
          have e12 : sM_length M2 = n := (hP.1.1 12 (by decide)).trans hY.1
          refine b103_82 ⟨fun g => absurd g (by omega), fun _ => ?_⟩
          refine lp (σ := Int × ev_M) (n := gn G) (c := fun r s => c103_93 s.1 i j r s.2 Q) (P := fun r s => tinv G n w M M1 i j r s) ?_ ?_ (r := 0) (s := (g, M2)) (by omega) (by omega) hP
          · rintro r ⟨g, M2⟩ r0 r1 hP ihr
            dsimp only at hP ihr ⊢
            obtain ⟨hf2, hS2, hm2, hg2⟩ := hP
            dsimp only at hf2 hS2 hm2 hg2
            have hM2 : isM G M2 := hM.of (hf2.1 11 (by decide)) (hf2.2 31 (by decide)) (hf2.2 32 (by decide)) (hf2.2 33 (by decide))
            have hgr := hG.2 r r0 r1
            have el : aM_left M2 r.toNat = gl G r := (hM2.2 r r0 r1).1
            have e11 := hM2.1
            have skip : (pth G (tt M2) r (gz G r).toNat i j → tt M2 (gl G r) i j) → c103_154 g i j r M2 Q := by
              intro hx
              refine b103_154 ⟨⟨by omega, by omega⟩, ihr (g, M2) ⟨hf2, hS2, hm2, ?_⟩⟩
              rcases hg2 with ⟨g0, eM, hcl⟩ | hg2
              · refine Or.inl ⟨g0, eM, fun i' j' r' a1 a2 a3 a4 a5 a6 a7 => ?_⟩
                by_cases e : i' = i ∧ j' = j ∧ r' = r
                · obtain ⟨e1, e2, e3⟩ := e
                  subst e1; subst e2; subst e3; subst eM
                  exact hx a7
                · exact hcl i' j' r' a1 a2 a3 a4 a5 (by omega) a7
              · exact Or.inr hg2
            refine b103_93 ⟨fun g => absurd g (by omega), fun _ => ⟨⟨r0, by omega⟩, ?_⟩⟩
            rw [el]
            refine g_m101 hS2.1 (by omega) (by omega) (by omega) (fun ht => ⟨fun _ => skip (fun _ => ht), fun g => absurd (by decide) g⟩) (fun ht => ⟨fun g => absurd rfl g, fun _ => g_m102 hG hT hM2 hS2 ⟨r0, r1⟩ ⟨i0, hij, by omega⟩ (fun hp => ⟨fun g => absurd g (by decide), fun _ => ⟨⟨r0, by omega⟩, ?_⟩⟩) (fun hp => ⟨fun _ => skip (fun h => absurd h hp), fun g => absurd rfl g⟩)⟩)
            rw [el]
            have hne : aM_table M2 (121 * gl G r + 11 * i + j).toNat = 0 := by
              rcases hS2.1 (121 * gl G r + 11 * i + j).toNat (by omega) with e | e
              · exact e
              · exact absurd ⟨by omega, by omega, by omega, e⟩ ht
            have nm : ttM M2 (ev_sA M2 39 (121 * gl G r + 11 * i + j).toNat 1) := by
              intro q hq hb
              show (ev_sA M2 39 (121 * gl G r + 11 * i + j).toNat 1).2 39 q = 1
              by_cases e : q = (121 * gl G r + 11 * i + j).toNat
              · rw [e, sA_same]
              · rw [sA_ne e]; exact hb
            refine ⟨⟨by omega, by omega⟩, ⟨by omega, by omega⟩, ⟨by omega, by omega⟩, ⟨by omega, by omega⟩, ⟨by omega, by omega⟩, b103_154 ⟨⟨by omega, by omega⟩, ihr (1, _) ⟨hf2.sA (by decide), ⟨fun q hq => ?_, fun x a b hb => ?_⟩, fun q hq hb => nm q hq (hm2 q hq hb), Or.inr ⟨rfl, ?_⟩⟩⟩⟩
            · show (ev_sA M2 39 (121 * gl G r + 11 * i + j).toNat 1).2 39 q = 0 ∨ (ev_sA M2 39 (121 * gl G r + 11 * i + j).toNat 1).2 39 q = 1
              by_cases e : q = (121 * gl G r + 11 * i + j).toNat
              · rw [e, sA_same]; exact Or.inr rfl
              · rw [sA_ne e]; exact hS2.1 q hq
            · obtain ⟨b1, b2, b3, b4⟩ := hb
              have b4' : (ev_sA M2 39 (121 * gl G r + 11 * i + j).toNat 1).2 39 (121 * x + 11 * a + b).toNat = 1 := b4
              by_cases e : (121 * x + 11 * a + b).toNat = (121 * gl G r + 11 * i + j).toNat
              · have e1 : x = gl G r := by omega
                have e2 : a = i := by omega
                have e3 : b = j := by omega
                rw [e1, e2, e3]
                exact der.rule r0 r1 i0 (by omega) (pth_mono (fun d hd u v huv => hS2.2 _ _ _ huv) hp)
              · rw [sA_ne e] at b4'
                exact hS2.2 x a b ⟨b1, b2, b3, b4'⟩
            · have m1 := msT_mono hm2
              have m2 : msT M2 < msT (ev_sA M2 39 (121 * gl G r + 11 * i + j).toNat 1) := by
                refine cntB_lt (k := (121 * gl G r + 11 * i + j).toNat) (fun q hq hb => decide_eq_true (nm q hq (of_decide_eq_true hb))) (by omega) (decide_eq_false (by omega)) (decide_eq_true ?_)
                show (ev_sA M2 39 (121 * gl G r + 11 * i + j).toNat 1).2 39 (121 * gl G r + 11 * i + j).toNat = 1
                exact sA_same
              show msT M1 < msT (ev_sA M2 39 (121 * gl G r + 11 * i + j).toNat 1)
              omega
          · rintro ⟨g, M2⟩ hP
            dsimp only at hP ⊢
            have e11 : sM_rules M2 = gn G := (hP.1.1 11 (by decide)).trans hM.1
            refine b103_93 ⟨fun _ => ⟨⟨by omega, by omega⟩, ihj (g, M2) ⟨by omega, hP.to (fun i' j' r' a1 a2 a3 a4 a5 a6 => by omega)⟩⟩, fun g => absurd (by omega) g⟩
        · rintro ⟨g, M2⟩ ⟨hij, hP⟩
          dsimp only at hP ⊢
          have e12 : sM_length M2 = n := (hP.1.1 12 (by decide)).trans hY.1
          refine b103_82 ⟨fun _ => ⟨⟨by omega, by omega⟩, ih (g, M2) (hP.to (fun i' j' r' a1 a2 a3 a4 a5 a6 => by omega))⟩, fun g => absurd (by omega) g⟩
      · rintro ⟨g, M2⟩ hP
        dsimp only at hP ⊢
        have e12 : sM_length M2 = n := (hP.1.1 12 (by decide)).trans hY.1
        refine b103_72 ⟨fun _ => ?_, fun g => absurd (by omega) g⟩
        obtain ⟨hf2, hS2, hm2, hg2⟩ := hP
        dsimp only at hf2 hS2 hm2 hg2
        rcases hg2 with ⟨g0, eM, hcl⟩ | ⟨g1, hlt⟩
        · subst g0; subst eM
          refine b103_64 ⟨fun _ => h M2 hf2 ⟨hS2.1, fun x i j => ⟨hS2.2 x i j, fun hd => ?_⟩⟩, fun g => absurd rfl g⟩
          refine hd (tt M2) hw (fun r a b r0 r1 a0 a1 hp => ?_)
          have l1 : a ≤ b := pth_le (fun x a b h => ((hS2.2 _ _ _ h).rng hG hT).2.2.1) hp
          have l2 : b ≤ n := pth_end (fun x a b h => ((hS2.2 _ _ _ h).rng hG hT).2.2.2.1) a1 hp
          exact hcl a b r a0 l1 l2 r0 r1 (by omega) hp
        · subst g1
          have h2 : msT M2 ≤ 1210 := cntB_le
          exact ihk M2 (by omega) hf2 hS2 (fun p p0 p1 => hm2.tt (hw p p0 p1))
  refine b103 ?_
  refine lp (σ := ev_M) (n := 1210) (c := fun k M1 => c103_2 k M1 Q) (P := fun k M1 => fr [] [39] M M1 ∧ ∀ q : Nat, (q : Int) < k → aM_table M1 q = 0) ?_ ?_ (by omega) (by omega) ⟨fr.refl, fun q hq => by omega⟩
  · rintro k M1 k0 k1 ⟨hf, hz⟩ ih
    refine b103_2 ⟨fun g => absurd g (by omega), fun _ => ⟨⟨k0, k1⟩, ⟨by omega, by omega⟩, ih _ ⟨hf.sA (by decide), fun q hq => ?_⟩⟩⟩
    show (ev_sA M1 39 k.toNat 0).2 39 q = 0
    by_cases e : q = k.toNat
    · rw [e, sA_same]
    · rw [sA_ne e]; exact hz q (by omega)
  · rintro M1 ⟨hf, hz⟩
    refine b103_2 ⟨fun _ => ?_, fun g => absurd (by omega) g⟩
    refine lp (σ := ev_M) (n := n) (c := fun p M1 => c103_24 p M1 Q) (P := fun p M1 => fr [] [39] M M1 ∧ tS G n w M1 ∧ ∀ q : Int, 0 ≤ q → q < p → tt M1 (w q) q (q + 1)) ?_ ?_ (by omega) hn.1 ⟨hf, ⟨fun q hq => Or.inl (hz q (by omega)), fun x i j hb => ?_⟩, fun q q0 q1 => by omega⟩
    · rintro p M2 p0 p1 ⟨hf2, hS2, hw2⟩ ih
      have hY2 : isY n w M2 := hY.of (hf2.1 12 (by decide)) (hf2.2 34 (by decide))
      have e12 := hY2.1
      have hwp := hT.2 p p0 p1
      refine b103_24 ⟨fun g => absurd g (by omega), fun _ => ⟨⟨p0, by omega⟩, ?_⟩⟩
      rw [hY2.2 p p0 p1]
      have ei : 121 * w p + 11 * p + p + 1 = 121 * w p + 11 * p + (p + 1) := by omega
      refine ⟨⟨by omega, by omega⟩, ⟨by omega, by omega⟩, ⟨by omega, by omega⟩, ⟨by omega, by omega⟩, ⟨by omega, by omega⟩, ⟨by omega, by omega⟩, ⟨by omega, by omega⟩, ih _ ⟨hf2.sA (by decide), ⟨fun q hq => ?_, fun x a b hb => ?_⟩, fun q q0 q1 => ?_⟩⟩
      · show (ev_sA M2 39 (121 * w p + 11 * p + p + 1).toNat 1).2 39 q = 0 ∨ (ev_sA M2 39 (121 * w p + 11 * p + p + 1).toNat 1).2 39 q = 1
        by_cases e : q = (121 * w p + 11 * p + p + 1).toNat
        · rw [e, sA_same]; exact Or.inr rfl
        · rw [sA_ne e]; exact hS2.1 q hq
      · obtain ⟨b1, b2, b3, b4⟩ := hb
        have b4' : (ev_sA M2 39 (121 * w p + 11 * p + p + 1).toNat 1).2 39 (121 * x + 11 * a + b).toNat = 1 := b4
        by_cases e : (121 * x + 11 * a + b).toNat = (121 * w p + 11 * p + p + 1).toNat
        · have e1 : x = w p := by omega
          have e2 : a = p := by omega
          have e3 : b = p + 1 := by omega
          rw [e1, e2, e3]
          exact der.word p0 p1
        · rw [sA_ne e] at b4'
          exact hS2.2 x a b ⟨b1, b2, b3, b4'⟩
      · have hwq := hT.2 q q0 (by omega)
        refine ⟨by omega, by omega, by omega, ?_⟩
        show (ev_sA M2 39 (121 * w p + 11 * p + p + 1).toNat 1).2 39 (121 * w q + 11 * q + (q + 1)).toNat = 1
        by_cases e : (121 * w q + 11 * q + (q + 1)).toNat = (121 * w p + 11 * p + p + 1).toNat
        · rw [e, sA_same]
        · rw [sA_ne e]
          by_cases e2 : q = p
          · subst e2; omega
          · exact (hw2 q q0 (by omega)).2.2.2
    · rintro M2 ⟨hf2, hS2, hw2⟩
      have e12 : sM_length M2 = n := (hf2.1 12 (by decide)).trans hY.1
      exact b103_24 ⟨fun _ => rounds 1211 M2 (by omega) hf2 hS2 hw2, fun g => absurd (by omega) g⟩
    · obtain ⟨b1, b2, b3, b4⟩ := hb
      rw [hz _ (by omega)] at b4
      exact absurd b4 (by omega)
end FP
