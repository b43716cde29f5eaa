/-! The class: the walk through a tree -/
/-- the class's waiting parts, the topmost first -/
def stC (G : gT) (n : Int) (T : Int → Int → Int → Bool) (v : Int → Int → Int → Nat) (ρ : Int → Int → Int → Int) (M : ev_M) : List ent → Prop
  | [] => True
  | e :: es => aW_waitingNode M es.length = (e.1 * 11 + e.2.1) * 11 + e.2.2.1 ∧ aW_waitingTree M es.length = (e.2.2.2.1 : Int) ∧ ((e.1 < 6 ∧ TR G n T v e.1 e.2.1 e.2.2.1 e.2.2.2.1 e.2.2.2.2 ∧ (es.length : Int) + 3 * (ρ e.1 e.2.1 e.2.2.1 + 1) + 1 ≤ 199) ∨ ((6 ≤ e.1 ∧ e.1 < 10) ∧ T e.1 e.2.1 e.2.2.1 = true ∧ e.2.2.2.1 = 0 ∧ e.2.2.2.2 = [] ∧ (es.length : Int) + 1 ≤ 199)) ∧ e.2.2.2.1 < 1000000000 ∧ stC G n T v ρ M es
/-- how many nodes the waiting parts have -/
def pot : List ent → Int
  | [] => 0
  | e :: es => (e.2.2.2.2.length : Int) + (e.2.2.1 - e.2.1) + pot es
section SC
variable {G : gT} {n : Int} {w : Int → Int} {T : Int → Int → Int → Bool} {v : Int → Int → Int → Nat} {ρ : Int → Int → Int → Int} {m i j r : Int} {u : Nat → Int} {M M' : ev_M}
theorem stC.of : ∀ es : List ent, stC G n T v ρ M es → (∀ q : Nat, q < es.length → aW_waitingNode M' q = aW_waitingNode M q ∧ aW_waitingTree M' q = aW_waitingTree M q) → stC G n T v ρ M' es := by
  intro es
  induction es with
  | nil => intro _ _; exact trivial
  | cons e es ih =>
    rintro ⟨a1, a2, a3, a4, a5⟩ h
    have h1 := h es.length (by rw [List.length_cons]; omega)
    exact ⟨by rw [h1.1]; exact a1, by rw [h1.2]; exact a2, a3, a4, ih a5 (fun q hq => h q (by rw [List.length_cons]; omega))⟩
theorem stC.pot0 (hG : okG G) (hT : okT n w) (hD : isD G n w T) (hV : VF G n T v ρ) : ∀ es : List ent, stC G n T v ρ M es → 0 ≤ pot es := by
  intro es
  induction es with
  | nil => intro _; exact Int.le_refl _
  | cons e es ih =>
    rintro ⟨a1, a2, a3, a4, a5⟩
    have h1 := ih a5
    have h2 : 0 ≤ e.2.2.1 - e.2.1 := by
      rcases a3 with ⟨-, b1, -⟩ | ⟨-, b1, -⟩
      · have := (b1.size hG hT hD hV).1.rng hG hT hD
        omega
      · have := ((hD _ _ _).mp b1).rng hG hT
        omega
    show 0 ≤ (e.2.2.2.2.length : Int) + (e.2.2.1 - e.2.1) + pot es
    omega
/-- pushing the parts of a family -/
theorem g_m59 {Q : ev_M → Prop} {x : Nat} {es : List ent} {Ls : Nat → List Int} (hG : okG G) (hT : okT n w) (hD : isD G n w T) (hV : VF G n T v ρ) (hC : isC G M) (hu : usd G n T m i j) (hr : 0 ≤ r ∧ r < gn G) (hl : gl G r = m) (hc : cuts G T r i j u) (hb : rkB G v r u (gz G r).toNat ≠ 0) (hcut : ∀ d : Nat, d ≤ (gz G r).toNat → aW_cut M d = u d) (hsh : ∀ d : Nat, d < (gz G r).toNat → aW_share M d = ((shr G v r u (gz G r).toNat x d : Nat) : Int))
    (hch : ∀ d : Nat, d < (gz G r).toNat → (6 ≤ gs G r (d : Int) → Ls d = []) ∧ (gs G r (d : Int) < 6 → TR G n T v (gs G r (d : Int)) (u d) (u (d + 1)) (shr G v r u (gz G r).toNat x d) (Ls d)))
    (hst : stC G n T v ρ M es) (hwt : sW_waiting M = (es.length : Int)) (hht : (es.length : Int) + 3 * (ρ m i j + 1) + 1 ≤ 199)
    (h : ∀ (M' : ev_M) (es' : List ent), fr [8] [28, 29] M M' → stC G n T v ρ M' es' → sW_waiting M' = (es'.length : Int) → flat es' = cat Ls (gz G r).toNat ++ flat es → pot es' = ((cat Ls (gz G r).toNat).length : Int) + (j - i) + pot es → Q M') : m59 r M Q := by
  have hn := hT.1
  have gc := hG.1
  have hrg := hu.rng hG hT hD
  obtain ⟨hcv, hon, hvu, heq, hρ⟩ := hV
  have hbn := (rkB_ne _).mp hb
  have g := (hG.2 r hr.1 hr.2).2.1
  have hmo := hc.mono hG hT hD
  obtain ⟨-, esz, esy⟩ := hC.2 r hr.1 hr.2
  have hρm := (hρ m i j hu).1
  refine b59 ⟨⟨hr.1, by omega⟩, ?_⟩
  rw [esz]
  refine ⟨⟨by omega, by omega⟩, ?_⟩
  refine lpd (σ := ev_M) (c := fun c M1 => c59_12 r c M1 Q) (P := fun c M1 => c < gz G r ∧ fr [8] [28, 29] M M1 ∧ ∃ es1 : List ent, stC G n T v ρ M1 es1 ∧ sW_waiting M1 = (es1.length : Int) ∧ (es1.length : Int) ≤ es.length + (gz G r - 1 - c) ∧ flat es1 = tcat Ls (gz G r).toNat ((gz G r).toNat - (c + 1).toNat) ++ flat es ∧ pot es1 = ((tcat Ls (gz G r).toNat ((gz G r).toNat - (c + 1).toNat)).length : Int) + (j - u (c + 1).toNat) + pot es) ?_ ?_ (by omega) ⟨by omega, fr.refl, es, hst, hwt, by omega, by rw [show (gz G r).toNat - (gz G r - 1 + 1).toNat = 0 by omega]; rfl, by
      rw [show (gz G r).toNat - (gz G r - 1 + 1).toNat = 0 by omega, show (gz G r - 1 + 1).toNat = (gz G r).toNat by omega, hc.2.1]
      show pot es = ((0 : Nat) : Int) + (j - j) + pot es
      omega⟩
  · rintro c M1 c0 ⟨c1, hf1, es1, hs1, hw1, hh1, hfl1, hpot1⟩ ih
    have ecn : ((c.toNat : Nat) : Int) = c := by omega
    have ek : (gz G r).toNat - (c + (-1) + 1).toNat = ((gz G r).toNat - (c + 1).toNat) + 1 := by omega
    have ed : (gz G r).toNat - (((gz G r).toNat - (c + 1).toNat) + 1) = c.toNat := by omega
    have etc : tcat Ls (gz G r).toNat ((gz G r).toNat - (c + (-1) + 1).toNat) = Ls c.toNat ++ tcat Ls (gz G r).toNat ((gz G r).toNat - (c + 1).toNat) := by
      rw [ek]
      show Ls ((gz G r).toNat - (((gz G r).toNat - (c + 1).toNat) + 1)) ++ _ = _
      rw [ed]
    have hsy := (hG.2 r hr.1 hr.2).2.2 c c0 c1
    have esd : gR M1 r c = gs G r c := by
      show M1.2 4 _ = _
      rw [hf1.2 4 (by decide)]; exact esy c c0 c1
    have ec1 : aW_cut M1 c.toNat = u c.toNat := (congrFun (hf1.2 26 (by decide)) _).trans (hcut _ (by omega))
    have e1n : (c + 1).toNat = c.toNat + 1 := by omega
    have ec2 : aW_cut M1 (c + 1).toNat = u (c.toNat + 1) := by
      rw [e1n]
      exact (congrFun (hf1.2 26 (by decide)) _).trans (hcut _ (by omega))
    have esh : aW_share M1 c.toNat = ((shr G v r u (gz G r).toNat x c.toNat : Nat) : Int) := (congrFun (hf1.2 27 (by decide)) _).trans (hsh _ (by omega))
    have h1 := hmo c.toNat (by omega)
    have h2 := hmo (c.toNat + 1) (by omega)
    have hTd := hc.2.2 c.toNat (by omega)
    rw [ecn] at hTd
    have hvd := hbn c.toNat (by omega)
    rw [ecn] at hvd
    obtain ⟨Y, hY⟩ : ∃ Y : Nat, Y = shr G v r u (gz G r).toNat x c.toNat := ⟨_, rfl⟩
    rw [← hY] at esh
    have hYV : Y < v (gs G r c) (u c.toNat) (u (c.toNat + 1)) := by
      rw [hY]
      unfold shr
      rw [ecn]
      exact Nat.mod_lt _ (Nat.pos_of_ne_zero hvd)
    have hlen : (es1.length : Int) < 199 := by omega
    have hpos : (sW_waiting M1).toNat = es1.length := by omega
    refine b59_12 ⟨fun g => absurd g (by omega), fun _ => g_m4 ⟨hr.1, by omega⟩ ⟨c0, by omega⟩ ⟨⟨c0, by omega⟩, ⟨by omega, by omega⟩, ⟨by omega, by omega⟩, ?_⟩⟩
    rw [esd, ec1, ec2]
    refine g_m46 hsy (by omega) (by omega) ⟨⟨c0, by omega⟩, ?_⟩
    rw [esh]
    refine b55 ⟨fun g => absurd g (by omega), fun _ => ⟨⟨by omega, by omega⟩, ⟨by omega, by omega⟩, ⟨by omega, by omega⟩, b55_40 ⟨⟨by omega, by omega⟩, ih _ ⟨by omega, ((hf1.sA (by decide)).sA (by decide)).sS (by decide), (gs G r c, u c.toNat, u (c.toNat + 1), Y, Ls c.toNat) :: es1, ⟨?_, ?_, ?_, ?_, ?_⟩, ?_, ?_, ?_, ?_⟩⟩⟩⟩
    · show (ev_sA M1 28 (sW_waiting M1).toNat _).2 28 es1.length = _
      rw [← hpos, sA_same]
    · show (ev_sA (ev_sA M1 28 _ _) 29 (sW_waiting M1).toNat _).2 29 es1.length = _
      rw [← hpos, sA_same]
    · by_cases h6 : gs G r c < 6
      · left
        have hkd := kid_cuts hG hT hD hr hl hc (k := c.toNat) (by omega) (by rw [ecn]; omega)
        rw [ecn] at hkd
        have hρk := (hρ m i j hu).2 _ _ _ hkd
        have hTR := (hch c.toNat (by omega)).2 (by rw [ecn]; omega)
        rw [ecn, ← hY] at hTR
        exact ⟨h6, hTR, by show (es1.length : Int) + 3 * (ρ (gs G r c) (u c.toNat) (u (c.toNat + 1)) + 1) + 1 ≤ 199; omega⟩
      · right
        have hv1 : v (gs G r c) (u c.toNat) (u (c.toNat + 1)) = 1 := by
          rw [← hcv]
          unfold cv
          rw [if_neg h6, hTd]; rfl
        rw [hv1] at hYV
        exact ⟨⟨by show 6 ≤ gs G r c; omega, hsy.2⟩, hTd, by show Y = 0; omega, (hch c.toNat (by omega)).1 (by rw [ecn]; omega), by omega⟩
    · show Y < 1000000000
      by_cases h6 : gs G r c < 6
      · have hkd := kid_cuts hG hT hD hr hl hc (k := c.toNat) (by omega) (by rw [ecn]; omega)
        rw [ecn] at hkd
        rw [heq _ _ _ (hu.kid hkd)] at hYV
        have := Nat.min_le_right (sumN (wt G v (gs G r c) (u c.toNat) (u (c.toNat + 1))) 18634) 1000000000
        omega
      · have hv1 : v (gs G r c) (u c.toNat) (u (c.toNat + 1)) = 1 := by
          rw [← hcv]
          unfold cv
          rw [if_neg h6, hTd]; rfl
        omega
    · refine hs1.of es1 (fun q hq => ⟨?_, ?_⟩)
      · show (ev_sA M1 28 (sW_waiting M1).toNat _).2 28 q = _
        exact sA_ne (by omega)
      · show (ev_sA (ev_sA M1 28 _ _) 29 (sW_waiting M1).toNat _).2 29 q = _
        rw [sA_ne (by omega)]; rfl
    · show sW_waiting M1 + 1 = _
      rw [List.length_cons]; omega
    · rw [List.length_cons]; omega
    · rw [etc]
      show Ls c.toNat ++ flat es1 = _
      rw [hfl1, List.append_assoc]
    · rw [etc]
      show ((Ls c.toNat).length : Int) + (u (c.toNat + 1) - u c.toNat) + pot es1 = _
      rw [hpot1, List.length_append, show (c + (-1) + 1).toNat = c.toNat by omega, e1n]
      omega
  · rintro M1 ⟨-, hf1, es1, hs1, hw1, hh1, hfl1, hpot1⟩
    rw [show (gz G r).toNat - (-1 + 1 : Int).toNat = (gz G r).toNat by omega, tcat_all] at hfl1 hpot1
    rw [show (-1 + 1 : Int).toNat = 0 from rfl, hc.1] at hpot1
    exact b59_12 ⟨fun _ => h M1 es1 hf1 hs1 hw1 hfl1 hpot1, fun g => absurd (by omega) g⟩
end SC
