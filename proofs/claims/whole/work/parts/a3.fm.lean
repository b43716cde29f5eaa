/-! The model's frontier -/
section FRM
variable {G : gT} {n c : Int} {w go : Int → Int} {M M' : ev_M} {p s : Int}
def fm (M : ev_M) (p s : Int) : Prop := (0 ≤ p ∧ p ≤ 10) ∧ (0 ≤ s ∧ s < 60) ∧ aM_front M (60 * p + s).toNat = 1
def fmR (M : ev_M) : Prop := ∀ k : Nat, k < 660 → aM_front M k = 0 ∨ aM_front M k = 1
def fmS (G : gT) (n : Int) (w go : Int → Int) (M : ev_M) : Prop := fmR M ∧ ∀ p s : Int, fm M p s → fro G n w go p s
def FRM (G : gT) (n : Int) (w go : Int → Int) (M : ev_M) : Prop := fmR M ∧ ∀ p s : Int, fm M p s ↔ fro G n w go p s
def fmC (G : gT) (n : Int) (w go : Int → Int) (M : ev_M) (p s : Int) : Prop := ∀ x q : Int, 0 ≤ x → x < 10 → 0 ≤ go (10 * s + x) → der G n w x p q → fm M q (go (10 * s + x))
def isW (c : Int) (go : Int → Int) (M : ev_M) : Prop := sM_states M = c ∧ ∀ j : Int, 0 ≤ j → j < 10 * c → aM_ways M j.toNat = go j
def msF (M : ev_M) : Nat := cntB (fun k => decide (aM_front M k = 1)) 660
def fmM (M M' : ev_M) : Prop := ∀ k : Nat, k < 660 → aM_front M k = 1 → aM_front M' k = 1
theorem fmM.fm {q t : Int} (h : fmM M M') (hb : fm M q t) : fm M' q t := ⟨hb.1, hb.2.1, h _ (by have := hb.1; have := hb.2.1; omega) hb.2.2⟩
theorem msF_mono (h : fmM M M') : msF M ≤ msF M' := cntB_mono (fun k hk hb => decide_eq_true (h k hk (of_decide_eq_true hb)))
theorem isW.of (h : isW c go M) (e : M'.1 13 = M.1 13) (e2 : M'.2 37 = M.2 37) : isW c go M' := by
  unfold isW at h ⊢
  simp only [sM_states, aM_ways] at h ⊢
  rw [e, e2]
  exact h
/-- grown or the same -/
def fmG (M M2 : ev_M) (g : Int) (X : Prop) : Prop := fmM M M2 ∧ ((g = 0 ∧ M2 = M ∧ X) ∨ (g = 1 ∧ msF M < msF M2))
theorem g_m119 {Q : Int → ev_M → Prop} (hG : okG G) (hT : okT n w) (hR : goR c go) (hY : isY n w M) (hP : PAR G n w M) (hA : isW c go M) (hS : fmS G n w go M) (hfr : fro G n w go p s) (h : ∀ (g : Int) (M' : ev_M), fr [] [43] M M' → fmS G n w go M' → fmG M M' g (fmC G n w go M p s) → Q g M') : m119 p s M Q := by
  have hn := hT.1
  have hps := hfr.rng hG hT hR
  have hcr := hR.1
  refine b119 ?_
  refine lp (σ := Int × ev_M) (n := 10) (c := fun x σ => c119_5 p s σ.1 x σ.2 Q) (P := fun x σ => fr [] [43] M σ.2 ∧ fmS G n w go σ.2 ∧ fmG M σ.2 σ.1 (∀ x' q : Int, 0 ≤ x' → x' < x → 0 ≤ go (10 * s + x') → der G n w x' p q → fm M q (go (10 * s + x')))) ?_ ?_ (r := 0) (s := (0, M)) (by omega) (by omega) ⟨fr.refl, hS, fun _ _ h => h, Or.inl ⟨rfl, rfl, fun x' q a1 a2 => by omega⟩⟩
  · rintro x ⟨g, M1⟩ x0 x1 ⟨hf1, hS1, hg1⟩ ih
    dsimp only at hf1 hS1 hg1 ih ⊢
    have ew : aM_ways M1 (10 * s + x).toNat = go (10 * s + x) := (congrFun (hf1.2 37 (by decide)) _).trans (hA.2 _ (by omega) (by omega))
    have hgo := hR.2 (10 * s + x) (by omega) (by omega)
    refine b119_5 ⟨fun g => absurd g (by omega), fun _ => ⟨⟨by omega, by omega⟩, ⟨by omega, by omega⟩, ⟨by omega, by omega⟩, ?_⟩⟩
    rw [ew]
    -- on to the next symbol
    have out : ∀ (g2 : Int) (M2 : ev_M), fr [] [43] M M2 → fmS G n w go M2 → fmG M M2 g2 ((∀ x' q : Int, 0 ≤ x' → x' < x → 0 ≤ go (10 * s + x') → der G n w x' p q → fm M q (go (10 * s + x'))) ∧ ∀ q : Int, 0 ≤ go (10 * s + x) → der G n w x p q → fm M q (go (10 * s + x))) → c119_93 p s g2 x M2 Q := by
      intro g2 M2 hf2 hS2 hg2
      refine b119_93 ⟨⟨by omega, by omega⟩, ih (g2, M2) ⟨hf2, hS2, hg2.1, hg2.2.elim (fun h => Or.inl ⟨h.1, h.2.1, fun x' q a1 a2 a3 a4 => ?_⟩) Or.inr⟩⟩
      by_cases e : x' = x
      · subst e; exact h.2.2.2 q a3 a4
      · exact h.2.2.1 x' q a1 (by omega) a3 a4
    refine lp (σ := Int × ev_M) (n := n + 1) (c := fun q σ => c119_29 p s σ.1 x (go (10 * s + x)) q σ.2 Q) (P := fun q σ => p ≤ q ∧ fr [] [43] M σ.2 ∧ fmS G n w go σ.2 ∧ fmG M σ.2 σ.1 ((∀ x' q : Int, 0 ≤ x' → x' < x → 0 ≤ go (10 * s + x') → der G n w x' p q → fm M q (go (10 * s + x'))) ∧ ∀ q' : Int, q' < q → 0 ≤ go (10 * s + x) → der G n w x p q' → fm M q' (go (10 * s + x)))) ?_ ?_ (r := p) (s := (g, M1)) hps.1.1 (by omega) ⟨Int.le_refl _, hf1, hS1, hg1.1, hg1.2.elim (fun h => Or.inl ⟨h.1, h.2.1, h.2.2, fun q' a1 a2 a3 => ?_⟩) Or.inr⟩
    · rintro q ⟨g2, M2⟩ q0 q1 ⟨hpq, hf2, hS2, hg2⟩ ihq
      dsimp only at hf2 hS2 hg2 ihq ⊢
      have e12 : sM_length M2 = n := (hf2.1 12 (by decide)).trans hY.1
      have hP2 : PAR G n w M2 := hP.of (hf2.2 39 (by decide))
      refine b119_29 ⟨fun g => absurd g (by omega), fun _ => ⟨fun hneg => out g2 M2 hf2 hS2 ⟨hg2.1, hg2.2.elim (fun h => Or.inl ⟨h.1, h.2.1, h.2.2.1, fun q' a1 a2 => by omega⟩) Or.inr⟩, fun hpos => ?_⟩⟩
      have g0 : 0 ≤ go (10 * s + x) := by omega
      have g1 : go (10 * s + x) < c := by
        rcases hgo with e | e
        · omega
        · exact e.2
      have skip : (der G n w x p q → fm M2 q (go (10 * s + x))) → c119_87 p s g2 x (go (10 * s + x)) q M2 Q := by
        intro hx
        refine b119_87 ⟨⟨by omega, by omega⟩, ihq (g2, M2) ⟨by omega, hf2, hS2, hg2.1, hg2.2.elim (fun h => Or.inl ⟨h.1, h.2.1, h.2.2.1, fun q' a1 a2 a3 => ?_⟩) Or.inr⟩⟩
        by_cases e : q' = q
        · subst e
          have := hx a3
          rw [h.2.1] at this
          exact this
        · exact h.2.2.2 q' (by omega) a2 a3
      refine g_m101 hP2.1 ⟨x0, x1⟩ ⟨by omega, by omega⟩ ⟨by omega, by omega⟩ (fun ht => ⟨fun g => absurd g (by decide), fun _ => ⟨⟨by omega, by omega⟩, ⟨by omega, by omega⟩, ⟨by omega, by omega⟩, fun hne => skip (fun _ => ⟨by omega, by omega, ?_⟩), fun hze => ⟨⟨by omega, by omega⟩, ⟨by omega, by omega⟩, ⟨by omega, by omega⟩, b119_87 ⟨⟨by omega, by omega⟩, ihq (1, _) ⟨by omega, hf2.sA (by decide), ⟨fun k hk => ?_, fun q' t hb => ?_⟩, fun k hk hb => ?_, Or.inr ⟨rfl, ?_⟩⟩⟩⟩⟩⟩) (fun ht => ⟨fun _ => skip (fun hd => absurd ((hP2.2 _ _ _).mpr hd) ht), fun g => absurd rfl g⟩)
      · rcases hS2.1 (60 * q + go (10 * s + x)).toNat (by omega) with e | e
        · exact absurd e hne
        · exact e
      · show (ev_sA M2 43 (60 * q + go (10 * s + x)).toNat 1).2 43 k = 0 ∨ (ev_sA M2 43 (60 * q + go (10 * s + x)).toNat 1).2 43 k = 1
        by_cases e : k = (60 * q + go (10 * s + x)).toNat
        · rw [e, sA_same]; exact Or.inr rfl
        · rw [sA_ne e]; exact hS2.1 k hk
      · obtain ⟨b1, b2, b3⟩ := hb
        have b3' : (ev_sA M2 43 (60 * q + go (10 * s + x)).toNat 1).2 43 (60 * q' + t).toNat = 1 := b3
        by_cases e : (60 * q' + t).toNat = (60 * q + go (10 * s + x)).toNat
        · have e1 : q' = q := by omega
          have e2 : t = go (10 * s + x) := by omega
          rw [e1, e2]
          exact hfr.step x0 x1 g0 ((hP2.2 _ _ _).mp ht)
        · rw [sA_ne e] at b3'
          exact hS2.2 _ _ ⟨b1, b2, b3'⟩
      · show (ev_sA M2 43 (60 * q + go (10 * s + x)).toNat 1).2 43 k = 1
        by_cases e : k = (60 * q + go (10 * s + x)).toNat
        · rw [e, sA_same]
        · rw [sA_ne e]; exact hg2.1 k hk hb
      · have m1 := msF_mono hg2.1
        have hze' : aM_front M2 (60 * q + go (10 * s + x)).toNat = 0 := Decidable.of_not_not hze
        have m2 : msF M2 < msF (ev_sA M2 43 (60 * q + go (10 * s + x)).toNat 1) := by
          refine cntB_lt (k := (60 * q + go (10 * s + x)).toNat) (fun k hk hb => decide_eq_true ?_) (by omega) (decide_eq_false (by omega)) (decide_eq_true ?_)
          · show (ev_sA M2 43 (60 * q + go (10 * s + x)).toNat 1).2 43 k = 1
            by_cases e : k = (60 * q + go (10 * s + x)).toNat
            · rw [e, sA_same]
            · rw [sA_ne e]; exact of_decide_eq_true hb
          · show (ev_sA M2 43 (60 * q + go (10 * s + x)).toNat 1).2 43 (60 * q + go (10 * s + x)).toNat = 1
            exact sA_same
        show msF M < msF (ev_sA M2 43 (60 * q + go (10 * s + x)).toNat 1)
        omega
    · rintro ⟨g2, M2⟩ ⟨-, hf2, hS2, hg2⟩
      dsimp only at hf2 hS2 hg2 ⊢
      have e12 : sM_length M2 = n := (hf2.1 12 (by decide)).trans hY.1
      refine b119_29 ⟨fun _ => out g2 M2 hf2 hS2 ⟨hg2.1, hg2.2.elim (fun h => Or.inl ⟨h.1, h.2.1, h.2.2.1, fun q a1 a2 => h.2.2.2 q ?_ a1 a2⟩) Or.inr⟩, fun g => absurd (by omega) g⟩
      have := a2.rng hG hT
      omega
    · have := a3.rng hG hT
      omega
  · rintro ⟨g, M1⟩ ⟨hf1, hS1, hg1⟩
    dsimp only at hf1 hS1 hg1 ⊢
    refine b119_5 ⟨fun _ => ⟨?_, h g M1 hf1 hS1 ⟨hg1.1, hg1.2.elim (fun h => Or.inl ⟨h.1, h.2.1, fun x q a1 a2 a3 a4 => h.2.2 x q a1 a2 a3 a4⟩) Or.inr⟩⟩, fun g => absurd (by omega) g⟩
    rcases hg1.2 with h | h
    · exact Or.inl h.1
    · exact Or.inr h.1
theorem g_m120 {Q : ev_M → Prop} (hG : okG G) (hT : okT n w) (hR : goR c go) (hY : isY n w M) (hP : PAR G n w M) (hA : isW c go M) (h : ∀ M' : ev_M, fr [] [43] M M' → FRM G n w go M' → Q M') : m120 M Q := by
  have hn := hT.1
  have hcr := hR.1
  have rounds : ∀ (k : Nat) (M1 : ev_M), 660 - msF M1 < k → fr [] [43] M M1 → fmS G n w go M1 → fm M1 0 0 → c120_31 1 M1 Q := by
    intro k
    induction k with
    | zero => intro M1 hk; omega
    | succ k ihk =>
      intro M1 hk hf1 hS1 hr1
      have hms : msF M1 ≤ 660 := cntB_le
      refine b120_31 ⟨fun g => absurd g (by decide), fun _ => ?_⟩
      refine lp (σ := Int × ev_M) (n := n + 1) (c := fun p σ => c120_39 σ.1 p σ.2 Q) (P := fun p σ => fr [] [43] M σ.2 ∧ fmS G n w go σ.2 ∧ fmG M1 σ.2 σ.1 (∀ p' s' : Int, p' < p → fm M1 p' s' → fmC G n w go M1 p' s')) ?_ ?_ (r := 0) (s := (0, M1)) (by omega) (by omega) ⟨hf1, hS1, fun _ _ h => h, Or.inl ⟨rfl, rfl, fun p' s' a1 hb => by have := hb.1; omega⟩⟩
      · rintro p ⟨g, M2⟩ p0 p1 ⟨hf2, hS2, hg2⟩ ih
        dsimp only at hf2 hS2 hg2 ih ⊢
        have e12 : sM_length M2 = n := (hf2.1 12 (by decide)).trans hY.1
        refine b120_39 ⟨fun g => absurd g (by omega), fun _ => ?_⟩
        refine lp (σ := Int × ev_M) (n := c) (c := fun s σ => c120_49 σ.1 p s σ.2 Q) (P := fun s σ => fr [] [43] M σ.2 ∧ fmS G n w go σ.2 ∧ fmG M1 σ.2 σ.1 ((∀ p' s' : Int, p' < p → fm M1 p' s' → fmC G n w go M1 p' s') ∧ ∀ s' : Int, s' < s → fm M1 p s' → fmC G n w go M1 p s')) ?_ ?_ (r := 0) (s := (g, M2)) (by omega) (by omega) ⟨hf2, hS2, hg2.1, hg2.2.elim (fun h => Or.inl ⟨h.1, h.2.1, h.2.2, fun s' a1 hb => by have := hb.2.1; omega⟩) Or.inr⟩
        · rintro s ⟨g, M2⟩ s0 s1 ⟨hf2, hS2, hg2⟩ ihs
          dsimp only at hf2 hS2 hg2 ihs ⊢
          have e13 : sM_states M2 = c := (hf2.1 13 (by decide)).trans hA.1
          -- the same memory goes on
          have keep : (fm M1 p s → M2 = M1 → fmC G n w go M1 p s) → c120_80 g p s M2 Q := by
            intro hx
            have go1 : ∀ g' : Int, fmG M1 M2 g' ((∀ p' s' : Int, p' < p → fm M1 p' s' → fmC G n w go M1 p' s') ∧ ∀ s' : Int, s' < s + 1 → fm M1 p s' → fmC G n w go M1 p s') → c120_89 p s g' M2 Q := fun g' hg' => b120_89 ⟨⟨by omega, by omega⟩, ihs (g', M2) ⟨hf2, hS2, hg'⟩⟩
            refine b120_80 ⟨fun g0 => go1 0 ⟨hg2.1, hg2.2.elim (fun h => Or.inl ⟨rfl, h.2.1, h.2.2.1, fun s' a1 hb => ?_⟩) (fun h => by omega)⟩, fun gn => b120_84 (go1 1 ⟨hg2.1, hg2.2.elim (fun h => absurd h.1 gn) (fun h => Or.inr ⟨rfl, h.2⟩)⟩)⟩
            by_cases e : s' = s
            · subst e; exact hx hb h.2.1
            · exact h.2.2.2 s' (by omega) hb
          refine b120_49 ⟨fun g => absurd g (by omega), fun _ => ⟨⟨by omega, by omega⟩, ⟨by omega, by omega⟩, ⟨by omega, by omega⟩, fun h0 => keep (fun hb eM => ?_), fun h1 => ?_⟩⟩
          · rw [eM] at h0
            have := hb.2.2
            omega
          · have h1' : aM_front M2 (60 * p + s).toNat = 1 := by
              rcases hS2.1 (60 * p + s).toNat (by omega) with e | e
              · exact absurd e h1
              · exact e
            have hfb : fm M2 p s := ⟨⟨p0, by omega⟩, ⟨s0, by omega⟩, h1'⟩
            have hY2 : isY n w M2 := hY.of (hf2.1 12 (by decide)) (hf2.2 34 (by decide))
            refine g_m119 hG hT hR hY2 (hP.of (hf2.2 39 (by decide))) (hA.of (hf2.1 13 (by decide)) (hf2.2 37 (by decide))) hS2 (hS2.2 _ _ hfb) (fun g3 M3 hf3 hS3 hg3 => ⟨fun gn => b120_84 (b120_89 ⟨⟨by omega, by omega⟩, ihs (1, M3) ⟨hf2.trans hf3, hS3, fun k hk hb => hg3.1 k hk (hg2.1 k hk hb), Or.inr ⟨rfl, ?_⟩⟩⟩), fun g0 => ?_⟩)
            · have m1 := msF_mono hg2.1
              show msF M1 < msF M3
              rcases hg3.2 with e | e
              · exact absurd e.1 gn
              · omega
            · rcases hg3.2 with ⟨-, eM3, hcl⟩ | ⟨e, -⟩
              · rw [eM3]
                exact keep (fun hb eM => by rw [eM] at hcl; exact hcl)
              · omega
        · rintro ⟨g, M2⟩ ⟨hf2, hS2, hg2⟩
          dsimp only at hf2 hS2 hg2 ⊢
          have e13 : sM_states M2 = c := (hf2.1 13 (by decide)).trans hA.1
          refine b120_49 ⟨fun _ => ⟨⟨by omega, by omega⟩, ih (g, M2) ⟨hf2, hS2, hg2.1, hg2.2.elim (fun h => Or.inl ⟨h.1, h.2.1, fun p' s' a1 hb => ?_⟩) Or.inr⟩⟩, fun g => absurd (by omega) g⟩
          by_cases e : p' = p
          · rw [e] at hb ⊢
            have := (hS1.2 _ _ hb).rng hG hT hR
            exact h.2.2.2 s' (by omega) hb
          · exact h.2.2.1 p' s' (by omega) hb
      · rintro ⟨g, M2⟩ ⟨hf2, hS2, hg2⟩
        dsimp only at hf2 hS2 hg2 ⊢
        have e12 : sM_length M2 = n := (hf2.1 12 (by decide)).trans hY.1
        refine b120_39 ⟨fun _ => ?_, fun g => absurd (by omega) g⟩
        rcases hg2.2 with ⟨g0, eM, hcl⟩ | ⟨g1, hlt⟩
        · subst g0; subst eM
          refine b120_31 ⟨fun _ => h M2 hf2 ⟨hS2.1, fun p s => ⟨hS2.2 p s, fun hfr => ?_⟩⟩, fun g => absurd rfl g⟩
          refine hfr (fm M2) hr1 (fun p s x q hF x0 x1 hg hd => ?_)
          have := hd.rng hG hT
          exact hcl p s (by omega) hF x q x0 x1 hg hd
        · subst g1
          have h2 : msF M2 ≤ 660 := cntB_le
          exact ihk M2 (by omega) hf2 hS2 (hg2.1.fm hr1)
  refine b120 ?_
  refine lp (σ := ev_M) (n := 660) (c := fun k M1 => c120_2 k M1 Q) (P := fun k M1 => fr [] [43] M M1 ∧ ∀ q : Nat, (q : Int) < k → aM_front M1 q = 0) ?_ ?_ (by omega) (by omega) ⟨fr.refl, fun q hq => by omega⟩
  · rintro k M1 k0 k1 ⟨hf, hz⟩ ih
    refine b120_2 ⟨fun g => absurd g (by omega), fun _ => ⟨⟨k0, k1⟩, ⟨by omega, by omega⟩, ih _ ⟨hf.sA (by decide), fun q hq => ?_⟩⟩⟩
    show (ev_sA M1 43 k.toNat 0).2 43 q = 0
    by_cases e : q = k.toNat
    · rw [e, sA_same]
    · rw [sA_ne e]; exact hz q (by omega)
  · rintro M1 ⟨hf, hz⟩
    refine b120_2 ⟨fun _ => rounds 661 _ (by omega) (hf.sA (by decide)) ⟨fun k hk => ?_, fun p s hb => ?_⟩ ⟨by omega, by omega, ?_⟩, fun g => absurd (by omega) g⟩
    · show (ev_sA M1 43 0 1).2 43 k = 0 ∨ (ev_sA M1 43 0 1).2 43 k = 1
      by_cases e : k = 0
      · rw [e, sA_same]; exact Or.inr rfl
      · rw [sA_ne e]; exact Or.inl (hz k (by omega))
    · obtain ⟨b1, b2, b3⟩ := hb
      have b3' : (ev_sA M1 43 0 1).2 43 (60 * p + s).toNat = 1 := b3
      by_cases e : (60 * p + s).toNat = 0
      · have e1 : p = 0 := by omega
        have e2 : s = 0 := by omega
        rw [e1, e2]
        exact fro.start
      · rw [sA_ne e] at b3'
        have := hz (60 * p + s).toNat (by omega)
        exact absurd (this.symm.trans b3') (by decide)
    · show (ev_sA M1 43 0 1).2 43 0 = 1
      exact sA_same
theorem FRM.of (h : FRM G n w go M) (e : M'.2 43 = M.2 43) : FRM G n w go M' := by
  unfold FRM fmR fm at h ⊢
  simp only [aM_front] at h ⊢
  rw [e]
  exact h
end FRM
