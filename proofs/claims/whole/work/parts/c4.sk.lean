/-! The model: the stack of waiting parts -/
abbrev ent : Type := Int × Int × Int × Nat × List Int
/-- the waiting parts, the topmost first -/
def stM (G : gT) (n : Int) (T : Int → Int → Int → Bool) (v : Int → Int → Int → Nat) (ρ : Int → Int → Int → Int) (M : ev_M) : List ent → Prop
  | [] => True
  | e :: es => aM_nodes M es.length = 121 * e.1 + 11 * e.2.1 + e.2.2.1 ∧ aM_picks M es.length = (e.2.2.2.1 : Int) ∧ TR G n T v e.1 e.2.1 e.2.2.1 e.2.2.2.1 e.2.2.2.2 ∧ e.2.2.2.1 < 1000000000 ∧ (es.length : Int) + 3 * (ρ e.1 e.2.1 e.2.2.1 + 1) + 1 ≤ 199 ∧ stM G n T v ρ M es
def flat : List ent → List Int
  | [] => []
  | e :: es => e.2.2.2.2 ++ flat es
/-- the last k rows -/
def tcat (Ls : Nat → List Int) (z : Nat) : Nat → List Int
  | 0 => []
  | k + 1 => Ls (z - (k + 1)) ++ tcat Ls z k
section SK
variable {G : gT} {n : Int} {w : Int → Int} {T : Int → Int → Int → Bool} {v : Int → Int → Int → Nat} {ρ : Int → Int → Int → Int} {m i j r : Int} {k : Nat} {u : Nat → Int} {M M' : ev_M}
theorem stM.of : ∀ es : List ent, stM G n T v ρ M es → (∀ q : Nat, q < es.length → aM_nodes M' q = aM_nodes M q ∧ aM_picks M' q = aM_picks M q) → stM G n T v ρ M' es := by
  intro es
  induction es with
  | nil => intro _ _; exact trivial
  | cons e es ih =>
    rintro ⟨a1, a2, a3, a4, a5, a6⟩ h
    have h1 := h es.length (by rw [List.length_cons]; omega)
    exact ⟨by rw [h1.1]; exact a1, by rw [h1.2]; exact a2, a3, a4, a5, ih a6 (fun q hq => h q (by rw [List.length_cons]; omega))⟩
theorem tcat_cat (Ls : Nat → List Int) (z : Nat) : ∀ d : Nat, d ≤ z → cat Ls d ++ tcat Ls z (z - d) = tcat Ls z z := by
  intro d
  induction d with
  | zero => intro _; rw [Nat.sub_zero]; rfl
  | succ d ih =>
    intro hd
    rw [← ih (by omega), show z - d = (z - (d + 1)) + 1 by omega]
    show (cat Ls d ++ Ls d) ++ _ = cat Ls d ++ (Ls (z - (z - (d + 1) + 1)) ++ tcat Ls z (z - (d + 1)))
    rw [List.append_assoc, show z - (z - (d + 1) + 1) = d by omega]
theorem tcat_all (Ls : Nat → List Int) (z : Nat) : tcat Ls z z = cat Ls z := by
  have := tcat_cat Ls z z (Nat.le_refl _)
  rw [Nat.sub_self] at this
  rw [← this]
  exact List.append_nil _
theorem g_m136 {Q : ev_M → Prop} {x : Nat} {es : List ent} {Ls : Nat → List Int} (hG : okG G) (hT : okT n w) (hD : isD G n w T) (hV : VF G n T v ρ) (hM : isM G M) (hmV : mV G n T v M) (hu : usd G n T m i j) (hI : itR G m i j M) (h0 : 0 ≤ sM_rule M) (hr : 0 ≤ r ∧ r < gn G) (hl : gl G r = m) (hc : cuts G T r i j u) (he : cur M = cdu G r j u) (hb : rkB G v r u (gz G r).toNat ≠ 0) (hx : x < 1000000000)
    (hch : ∀ d : Nat, d < (gz G r).toNat → (6 ≤ gs G r (d : Int) → Ls d = []) ∧ (gs G r (d : Int) < 6 → TR G n T v (gs G r (d : Int)) (u d) (u (d + 1)) (shr G v r u (gz G r).toNat x d) (Ls d)))
    (hst : stM G n T v ρ M es) (hwt : sM_waiting M = (es.length : Int)) (hht : (es.length : Int) + 3 * (ρ m i j + 1) + 1 ≤ 199)
    (h : ∀ (M' : ev_M) (es' : List ent), fr [25] [44, 45] M M' → stM G n T v ρ M' es' → sM_waiting M' = (es'.length : Int) → flat es' = cat Ls (gz G r).toNat ++ flat es → Q M') : m136 (x : Int) M Q := by
  have hn := hT.1
  have gc := hG.1
  have hrg := hu.rng hG hT hD
  have hft : 0 ≤ i ∧ i ≤ j ∧ j ≤ 10 := by omega
  obtain ⟨hcv, hon, hvu, heq, hρ⟩ := hV
  have hbn := (rkB_ne _).mp hb
  have g := (hG.2 r hr.1 hr.2).2.1
  obtain ⟨t1, t2, t3, t4⟩ := cur_cdu hG hT hD hft hr hc hI h0 he
  have hpp := (isF_of (m := m) hG hT hD hr hl hc).2
  have esz : aM_sizes M (sM_rule M).toNat = gz G r := by rw [t1]; exact (hM.2 r hr.1 hr.2).2.1
  have hρm := (hρ m i j hu).1
  refine b136 ⟨by rw [t1]; omega, ?_⟩
  rw [esz]
  refine ⟨⟨by omega, by omega⟩, ?_⟩
  refine lpd (σ := Int × ev_M) (c := fun c s => c136_15 s.1 c s.2 Q) (P := fun c s => c < gz G r ∧ fr [25] [44, 45] M s.2 ∧ s.1 = ((xq G v r u (gz G r).toNat x ((gz G r).toNat - (c + 1).toNat) : Nat) : Int) ∧ xq G v r u (gz G r).toNat x ((gz G r).toNat - (c + 1).toNat) < 1000000000 ∧ ∃ es1 : List ent, stM G n T v ρ s.2 es1 ∧ sM_waiting s.2 = (es1.length : Int) ∧ (es1.length : Int) ≤ es.length + (gz G r - 1 - c) ∧ flat es1 = tcat Ls (gz G r).toNat ((gz G r).toNat - (c + 1).toNat) ++ flat es) ?_ ?_ (r := gz G r - 1) (s := ((x : Int), M)) (by omega) ⟨by omega, fr.refl, by rw [show (gz G r).toNat - (gz G r - 1 + 1).toNat = 0 by omega]; rfl, by rw [show (gz G r).toNat - (gz G r - 1 + 1).toNat = 0 by omega]; exact hx, es, hst, hwt, by omega, by rw [show (gz G r).toNat - (gz G r - 1 + 1).toNat = 0 by omega]; rfl⟩
  · rintro c ⟨X, M1⟩ c0 ⟨c1, hf1, hX, hXc, es1, hs1, hw1, hh1, hfl1⟩ ih
    dsimp only at hf1 hX hs1 hw1 ih ⊢
    have ecn : ((c.toNat : Nat) : Int) = c := by omega
    have ek : (gz G r).toNat - (c + (-1) + 1).toNat = ((gz G r).toNat - (c + 1).toNat) + 1 := by omega
    have ed : (gz G r).toNat - (((gz G r).toNat - (c + 1).toNat) + 1) = c.toNat := by omega
    have ek2 : (gz G r).toNat - (c + 1).toNat = (gz G r).toNat - (c.toNat + 1) := by omega
    have exq : xq G v r u (gz G r).toNat x ((gz G r).toNat - (c + (-1) + 1).toNat) = xq G v r u (gz G r).toNat x ((gz G r).toNat - (c + 1).toNat) / v (gs G r c) (u c.toNat) (u (c.toNat + 1)) := by
      rw [ek]
      show _ / v (gs G r (((gz G r).toNat - (((gz G r).toNat - (c + 1).toNat) + 1) : Nat) : Int)) (u ((gz G r).toNat - (((gz G r).toNat - (c + 1).toNat) + 1))) (u ((gz G r).toNat - (((gz G r).toNat - (c + 1).toNat) + 1) + 1)) = _
      rw [ed, ecn]
    have etc : tcat Ls (gz G r).toNat ((gz G r).toNat - (c + (-1) + 1).toNat) = Ls c.toNat ++ tcat Ls (gz G r).toNat ((gz G r).toNat - (c + 1).toNat) := by
      rw [ek]
      show Ls ((gz G r).toNat - (((gz G r).toNat - (c + 1).toNat) + 1)) ++ _ = _
      rw [ed]
    have hM1 : isM G M1 := hM.of (hf1.1 11 (by decide)) (hf1.2 31 (by decide)) (hf1.2 32 (by decide)) (hf1.2 33 (by decide))
    have hmV1 : mV G n T v M1 := hmV.of (hf1.2 41 (by decide)) (hf1.2 42 (by decide))
    have e21 : sM_rule M1 = sM_rule M := hf1.1 21 (by decide)
    have e22 : sM_one M1 = sM_one M := hf1.1 22 (by decide)
    have e23 : sM_two M1 = sM_two M := hf1.1 23 (by decide)
    have e24 : sM_three M1 = sM_three M := hf1.1 24 (by decide)
    have hI1 : itR G m i j M1 := by
      unfold itR at hI ⊢
      simp only [sM_maker, sM_from, sM_to, sM_rule, sM_one, sM_two, sM_three] at hI ⊢
      rw [hf1.1 18 (by decide), hf1.1 19 (by decide), hf1.1 20 (by decide), hf1.1 21 (by decide), hf1.1 22 (by decide), hf1.1 23 (by decide), hf1.1 24 (by decide)]
      exact hI
    have hpc := hpp c c0 c1
    have hsy := (hG.2 r hr.1 hr.2).2.2 c c0 c1
    refine b136_15 ⟨fun g => absurd g (by omega), fun _ => g_m113 hG hM1 hft hI1 (by rw [e21]; exact h0) (by rw [e21, t1]; exact ⟨c0, c1⟩) ?_⟩
    rw [e21, e22, e23, e24, t1, t2, t3, t4, hpc.1, hpc.2]
    have hvd := hbn c.toNat (by omega)
    rw [ecn] at hvd
    have hTd := hc.2.2 c.toNat (by omega)
    rw [ecn] at hTd
    have hrd := ((hD _ _ _).mp hTd).rng hG hT
    by_cases h5 : gs G r c ≤ 5
    · rw [if_pos h5]
      have hkd := kid_cuts hG hT hD hr hl hc (k := c.toNat) (by omega) (by rw [ecn]; exact h5)
      rw [ecn] at hkd
      have huk := hu.kid hkd
      have hrk := huk.rng hG hT hD
      have hcn := hmV1.at hG hT hD huk
      have hρk := (hρ m i j hu).2 _ _ _ hkd
      have hvle : v (gs G r c) (u c.toNat) (u (c.toNat + 1)) ≤ 1000000000 := by
        rw [heq _ _ _ huk]; exact Nat.min_le_right _ _
      obtain ⟨V, hVe⟩ : ∃ V : Nat, V = v (gs G r c) (u c.toNat) (u (c.toNat + 1)) := ⟨_, rfl⟩
      obtain ⟨Y, hYe⟩ : ∃ Y : Nat, Y = xq G v r u (gz G r).toNat x ((gz G r).toNat - (c + 1).toNat) := ⟨_, rfl⟩
      rw [← hVe] at hcn hvd hvle exq
      rw [← hYe] at hX hXc exq
      have hw199 : (es1.length : Int) < 199 := by omega
      refine ⟨fun g => absurd g (by omega), fun _ => ⟨⟨by omega, by omega⟩, ⟨by omega, by omega⟩, ?_⟩⟩
      rw [hcn, hX]
      refine ⟨⟨by omega, by omega⟩, ⟨by omega, by omega⟩, ⟨by omega, by omega⟩, ⟨by omega, by omega⟩, ⟨by omega, by omega⟩, ⟨by omega, by omega⟩, ⟨by omega, by omega⟩, b136_82 ⟨⟨by omega, by omega⟩, ih (((Y : Int) / (V : Int)), _) ⟨by omega, ((hf1.sA (by decide)).sA (by decide)).sS (by decide), ?_, ?_, (gs G r c, u c.toNat, u (c.toNat + 1), Y % V, Ls c.toNat) :: es1, ?_, ?_, ?_, ?_⟩⟩⟩
      · show (Y : Int) / (V : Int) = _
        rw [exq]; exact (Int.natCast_ediv Y V).symm ▸ rfl
      · rw [exq]
        exact Nat.lt_of_le_of_lt (Nat.div_le_self Y V) hXc
      · have hpos : (sM_waiting M1).toNat = es1.length := by omega
        have hnew : stM G n T v ρ (ev_sS (ev_sA (ev_sA M1 44 (sM_waiting M1).toNat (121 * gs G r c + 11 * u c.toNat + u (c.toNat + 1))) 45 (sM_waiting M1).toNat ((Y : Int) % (V : Int))) 25 (sM_waiting M1 + 1)) es1 := by
          refine hs1.of es1 (fun q hq => ⟨?_, ?_⟩)
          · show (ev_sA M1 44 (sM_waiting M1).toNat _).2 44 q = _
            exact sA_ne (by omega)
          · show (ev_sA (ev_sA M1 44 _ _) 45 (sM_waiting M1).toNat _).2 45 q = _
            rw [sA_ne (by omega)]; rfl
        have hTR := (hch c.toNat (by omega)).2 (by rw [ecn]; omega)
        rw [ecn] at hTR
        unfold shr at hTR
        rw [ecn, ← ek2, ← hYe, ← hVe] at hTR
        refine ⟨?_, ?_, hTR, Nat.lt_of_lt_of_le (Nat.mod_lt _ (Nat.pos_of_ne_zero hvd)) hvle, ?_, hnew⟩
        · show (ev_sA M1 44 (sM_waiting M1).toNat _).2 44 es1.length = _
          rw [← hpos, sA_same]
        · show (ev_sA (ev_sA M1 44 _ _) 45 (sM_waiting M1).toNat _).2 45 es1.length = _
          rw [← hpos, sA_same]
          exact (Int.natCast_emod Y V).symm
        · show (es1.length : Int) + 3 * (ρ (gs G r c) (u c.toNat) (u (c.toNat + 1)) + 1) + 1 ≤ 199
          omega
      · show sM_waiting M1 + 1 = _
        rw [List.length_cons]; omega
      · rw [List.length_cons]; omega
      · rw [etc]
        show Ls c.toNat ++ flat es1 = _
        rw [hfl1, List.append_assoc]
    · rw [if_neg h5]
      have hv1 : v (gs G r c) (u c.toNat) (u (c.toNat + 1)) = 1 := by
        rw [← hcv]
        unfold cv
        rw [if_neg (by omega), hTd]; rfl
      have hLs := (hch c.toNat (by omega)).1 (by rw [ecn]; omega)
      refine ⟨fun _ => b136_82 ⟨⟨by omega, by omega⟩, ih (X, M1) ⟨by omega, hf1, ?_, ?_, es1, hs1, hw1, by omega, ?_⟩⟩, fun g => absurd (by omega) g⟩
      · rw [exq, hv1, Nat.div_one]; exact hX
      · rw [exq, hv1, Nat.div_one]; exact hXc
      · rw [etc, hLs]; exact hfl1
  · rintro ⟨X, M1⟩ ⟨-, hf1, hX, hXc, es1, hs1, hw1, hh1, hfl1⟩
    dsimp only at hf1 hs1 hw1 ⊢
    rw [show (gz G r).toNat - (-1 + 1 : Int).toNat = (gz G r).toNat by omega, tcat_all] at hfl1
    exact b136_15 ⟨fun _ => h M1 es1 hf1 hs1 hw1 hfl1, fun g => absurd (by omega) g⟩
end SK
