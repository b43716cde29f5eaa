/-! The class's frontier -/
theorem l2_an {x y : Int} (hx : 0 ≤ x ∧ x < 9223372036854775808) (hy : 0 ≤ y ∧ y < 9223372036854775808) : ∃ z : Int, tm_l2 (fun a b => a &&& b) x (tm_l2 (fun a b => a ^^^ b) y (-1)) = z ∧ (0 ≤ z ∧ z ≤ x) ∧ ∀ j : Nat, j < 64 → bt z j = (bt x j && !bt y j) := by
  obtain ⟨a, rfl⟩ := Int.eq_ofNat_of_zero_le hx.1
  obtain ⟨b, rfl⟩ := Int.eq_ofNat_of_zero_le hy.1
  have ha : a < 9223372036854775808 := by omega
  have hb : b < 9223372036854775808 := by omega
  have hle : a &&& (b ^^^ 18446744073709551615) ≤ a := Nat.and_le_left
  have e : Int64.ofInt (a : Int) &&& Int64.ofInt ((Int64.ofInt (b : Int) ^^^ Int64.ofInt (-1)).toInt) = Int64.ofNat (a &&& (b ^^^ 18446744073709551615)) := by
    rw [Int64.ofInt_toInt]
    apply Int64.toBitVec_inj.mp
    apply BitVec.eq_of_toNat_eq
    have e1 : (Int64.ofInt (a : Int)).toBitVec.toNat = a := by
      simp
      omega
    have e2 : (Int64.ofInt (b : Int)).toBitVec.toNat = b := by
      simp
      omega
    have e3 : (Int64.ofInt (-1)).toBitVec.toNat = 18446744073709551615 := by decide
    have e4 : (Int64.ofNat (a &&& (b ^^^ 18446744073709551615))).toBitVec.toNat = a &&& (b ^^^ 18446744073709551615) := by
      show (BitVec.ofNat 64 (a &&& (b ^^^ 18446744073709551615))).toNat = _
      rw [BitVec.toNat_ofNat]
      exact Nat.mod_eq_of_lt (by omega)
    rw [e4]
    show ((Int64.ofInt (a : Int)).toBitVec &&& ((Int64.ofInt (b : Int)).toBitVec ^^^ (Int64.ofInt (-1)).toBitVec)).toNat = _
    rw [BitVec.toNat_and, BitVec.toNat_xor, e1, e2, e3]
  refine ⟨((a &&& (b ^^^ 18446744073709551615) : Nat) : Int), ?_, ⟨by omega, by omega⟩, fun j hj => ?_⟩
  · unfold tm_l2
    dsimp only
    rw [e]
    exact Int64.toInt_ofNat_of_lt (by omega)
  · show Nat.testBit (((a &&& (b ^^^ 18446744073709551615) : Nat) : Int).toNat) j = (Nat.testBit ((a : Int).toNat) j && !Nat.testBit ((b : Int).toNat) j)
    rw [Int.toNat_natCast, Int.toNat_natCast, Int.toNat_natCast, Nat.testBit_and, Nat.testBit_xor]
    have e5 : Nat.testBit 18446744073709551615 j = true := by
      rw [show (18446744073709551615 : Nat) = 2 ^ 64 - 1 by decide, Nat.testBit_two_pow_sub_one, decide_eq_true hj]
    rw [e5, Bool.xor_true]
/-- one can be in state s behind the first p words -/
def fro (G : gT) (n : Int) (w go : Int → Int) (p s : Int) : Prop := ∀ F : Int → Int → Prop, F 0 0 → (∀ p s x q : Int, F p s → 0 ≤ x → x < 10 → 0 ≤ go (10 * s + x) → der G n w x p q → F q (go (10 * s + x))) → F p s
/-- the ways lead to states -/
def goR (c : Int) (go : Int → Int) : Prop := (1 ≤ c ∧ c ≤ 60) ∧ ∀ j : Int, 0 ≤ j → j < 10 * c → go j = -1 ∨ (0 ≤ go j ∧ go j < c)
section FRC
variable {G : gT} {n c : Int} {w go : Int → Int} {M M' : ev_M} {p s : Int}
theorem auE.goR {K : Int → Int} (h : auE G c K go) : goR c go := by
  obtain ⟨cn, hp, ec, c1, c60⟩ := h
  refine ⟨⟨c1, c60⟩, fun j j0 j1 => ?_⟩
  obtain ⟨-, y, -, hcase⟩ := hp.2.2.2 j j0 j1
  have m1 := hp.2.1 (j + 1) (by omega) (by omega)
  rcases hcase with ⟨-, e, -⟩ | ⟨-, h1, -, -, h2⟩
  · exact Or.inl e
  · refine Or.inr ⟨h1.1, ?_⟩
    by_cases e : go j = cn j
    · rw [if_pos e] at h2; omega
    · rw [if_neg e] at h2; omega
theorem fro.start : fro G n w go 0 0 := fun _ a _ => a
theorem fro.step {x q : Int} (h : fro G n w go p s) (x0 : 0 ≤ x) (x1 : x < 10) (hg : 0 ≤ go (10 * s + x)) (hd : der G n w x p q) : fro G n w go q (go (10 * s + x)) := fun F a b => b p s x q (h F a b) x0 x1 hg hd
theorem fro.rng (hG : okG G) (hT : okT n w) (hR : goR c go) (h : fro G n w go p s) : (0 ≤ p ∧ p ≤ n) ∧ 0 ≤ s ∧ s < c := by
  have hn := hT.1
  have hc := hR.1
  refine h (fun p s => (0 ≤ p ∧ p ≤ n) ∧ 0 ≤ s ∧ s < c) ⟨by omega, by omega⟩ (fun p s x q hF x0 x1 hg hd => ?_)
  have := hd.rng hG hT
  rcases hR.2 (10 * s + x) (by omega) (by omega) with e | e
  · omega
  · exact ⟨by omega, e⟩
/-- the class's row of states at a place -/
def fb (M : ev_M) (p s : Int) : Prop := (0 ≤ p ∧ p ≤ 10) ∧ (0 ≤ s ∧ s < 60) ∧ bt (aF_at M p.toNat) s.toNat = true
def fR (M : ev_M) : Prop := ∀ k : Nat, k < 11 → 0 ≤ aF_at M k ∧ aF_at M k < 1152921504606846976
/-- all that leads away from (p, s) is there -/
def fC (G : gT) (n : Int) (w go : Int → Int) (M : ev_M) (p s : Int) : Prop := ∀ x q : Int, 0 ≤ x → x < 10 → 0 ≤ go (10 * s + x) → der G n w x p q → fb M q (go (10 * s + x))
def FRC (G : gT) (n : Int) (w go : Int → Int) (M : ev_M) : Prop := fR M ∧ ∀ p s : Int, fb M p s ↔ fro G n w go p s
/-- what the frontier's methods keep -/
def fS (G : gT) (n : Int) (w go : Int → Int) (M : ev_M) : Prop := fR M ∧ ∀ p s : Int, fb M p s → fro G n w go p s
def isG (c : Int) (go : Int → Int) (M : ev_M) : Prop := sA_count M = c ∧ ∀ j : Int, 0 ≤ j → j < 10 * c → aA_goal M j.toNat = go j
theorem fC.mono (h : fC G n w go M p s) (hm : ∀ p s : Int, fb M p s → fb M' p s) : fC G n w go M' p s := fun x q a1 a2 a3 a4 => hm _ _ (h x q a1 a2 a3 a4)
theorem g_m30 {Q : ev_M → Prop} (hG : okG G) (hT : okT n w) (hR : goR c go) (hX : isX n w M) (hc : CHT G n w M) (hA : isG c go M) (hS : fS G n w go M) (hfr : fro G n w go p s) (h : ∀ M' : ev_M, fr [] [14] M M' → fS G n w go M' → (∀ q t : Int, fb M q t → fb M' q t) → (∀ q t : Int, q < p → fb M' q t → fb M q t) → fC G n w go M' p s → Q M') : m30 p s M Q := by
  have hn := hT.1
  have hps := hfr.rng hG hT hR
  have hcr := hR.1
  refine b30 ?_
  refine lp (σ := ev_M) (n := 10) (c := fun x M1 => c30_2 p s x M1 Q) (P := fun x M1 => fr [] [14] M M1 ∧ fS G n w go M1 ∧ (∀ q t : Int, fb M q t → fb M1 q t) ∧ (∀ q t : Int, q < p → fb M1 q t → fb M q t) ∧ ∀ x' q : Int, 0 ≤ x' → x' < x → 0 ≤ go (10 * s + x') → der G n w x' p q → fb M1 q (go (10 * s + x'))) ?_ ?_ (by omega) (by omega) ⟨fr.refl, hS, fun _ _ h => h, fun _ _ _ h => h, fun x' q a1 a2 => by omega⟩
  · rintro x M1 x0 x1 ⟨hf1, hS1, hm1, hl1, hc1⟩ ih
    have eg : aA_goal M1 (s * 10 + x).toNat = go (10 * s + x) := by
      have : M1.2 8 = M.2 8 := hf1.2 8 (by decide)
      show M1.2 8 _ = _
      rw [this, show s * 10 + x = 10 * s + x by omega]
      exact hA.2 _ (by omega) (by omega)
    have hch : CHT G n w M1 := hc.of (hf1.2 12 (by decide))
    have hgo := hR.2 (10 * s + x) (by omega) (by omega)
    -- the loop over the ends
    have row : ∀ E : Int, (0 ≤ E ∧ E < 2048) → (∀ q : Int, 0 ≤ q → (bt E q.toNat = true ↔ (0 ≤ go (10 * s + x) ∧ der G n w x p q))) → c30_38 p s x (go (10 * s + x)) E M1 Q := by
      intro E hE hEb
      refine b30_38 ?_
      refine lp (σ := ev_M) (n := n + 1) (c := fun q M2 => c30_43 p s x (go (10 * s + x)) E q M2 Q) (P := fun q M2 => p ≤ q ∧ fr [] [14] M M2 ∧ fS G n w go M2 ∧ (∀ q t : Int, fb M1 q t → fb M2 q t) ∧ (∀ q t : Int, q < p → fb M2 q t → fb M q t) ∧ ∀ q' : Int, q' < q → 0 ≤ go (10 * s + x) → der G n w x p q' → fb M2 q' (go (10 * s + x))) ?_ ?_ hps.1.1 (by omega) ⟨Int.le_refl _, hf1, hS1, fun _ _ h => h, hl1, fun q' a1 _ hd => ?_⟩
      · rintro q M2 q0 q1 ⟨hpq, hf2, hS2, hm2, hl2, hc2⟩ ihq
        have e5 : sC_size M2 = n := (hf2.1 5 (by decide)).trans hX.1
        refine b30_43 ⟨fun g => absurd g (by omega), fun _ => ⟨⟨hE.1, by omega⟩, ⟨by omega, by omega⟩, sr_i hE, fun g => b30_79 ⟨⟨by omega, by omega⟩, ihq M2 ⟨by omega, hf2, hS2, hm2, hl2, fun q' a1 a2 a3 => ?_⟩⟩, fun g => ?_⟩⟩
        · by_cases e : q' = q
          · subst e
            have := (hEb q' q0).mpr ⟨a2, a3⟩
            rw [bt_sr.mp g] at this
            exact absurd this (by decide)
          · exact hc2 q' (by omega) a2 a3
        · have hEq : bt E q.toNat = true := by
            cases hb : bt E q.toNat with
            | true => rfl
            | false => exact absurd (bt_sr.mpr hb) g
          obtain ⟨g0, hd⟩ := (hEb q q0).mp hEq
          have g1 : go (10 * s + x) < c := by
            rcases hgo with e | e
            · omega
            · exact e.2
          have hk := hS2.1 q.toNat (by omega)
          refine ⟨⟨q0, by omega⟩, ⟨g0, by omega⟩, pow_rng (by omega), ⟨hk.1, by omega⟩, sl_rng (n := 63) (by omega), ⟨q0, by omega⟩, b30_79 ⟨⟨by omega, by omega⟩, ihq _ ?_⟩⟩
          obtain ⟨N, hN⟩ : ∃ N : ev_M, N = ev_sA M2 14 q.toNat (tm_or (aF_at M2 q.toNat) (tm_sl 1 (go (10 * s + x)))) := ⟨_, rfl⟩
          rw [← hN]
          have hor : ∀ j, bt (tm_or (aF_at M2 q.toNat) (tm_sl 1 (go (10 * s + x)))) j = (bt (aF_at M2 q.toNat) j || decide ((go (10 * s + x)).toNat = j)) := fun j => bt_or
          have eat : ∀ k : Nat, aF_at N k = (if k = q.toNat then tm_or (aF_at M2 q.toNat) (tm_sl 1 (go (10 * s + x))) else aF_at M2 k) := by
            intro k
            rw [hN]
            show (ev_sA M2 14 q.toNat _).2 14 k = _
            by_cases e : k = q.toNat
            · rw [if_pos e, e, sA_same]
            · rw [if_neg e, sA_ne e]
          have hfb : ∀ q' t : Int, fb N q' t ↔ (fb M2 q' t ∨ (q' = q ∧ t = go (10 * s + x))) := by
            intro q' t
            unfold fb
            rw [eat]
            constructor
            · rintro ⟨b1, b2, b3⟩
              by_cases e : q'.toNat = q.toNat
              · rw [if_pos e, hor, Bool.or_eq_true, decide_eq_true_iff] at b3
                rcases b3 with b3 | b3
                · exact Or.inl ⟨b1, b2, by rw [e]; exact b3⟩
                · exact Or.inr ⟨by omega, by omega⟩
              · rw [if_neg e] at b3
                exact Or.inl ⟨b1, b2, b3⟩
            · rintro (⟨b1, b2, b3⟩ | ⟨rfl, rfl⟩)
              · refine ⟨b1, b2, ?_⟩
                by_cases e : q'.toNat = q.toNat
                · rw [if_pos e, hor, ← e, b3]; rfl
                · rw [if_neg e]; exact b3
              · refine ⟨by omega, by omega, ?_⟩
                rw [if_pos rfl, hor, decide_eq_true rfl, Bool.or_true]
          refine ⟨by omega, by rw [hN]; exact hf2.sA (by decide), ⟨fun k hk2 => ?_, fun q' t hb => ?_⟩, fun q' t hb => (hfb _ _).mpr (Or.inl (hm2 _ _ hb)), fun q' t hlt hb => ?_, fun q' a1 a2 a3 => ?_⟩
          · rw [eat]
            by_cases e : k = q.toNat
            · rw [if_pos e]; exact or_rng (n := 60) hk (by omega)
            · rw [if_neg e]; exact hS2.1 k hk2
          · rcases (hfb _ _).mp hb with hb | ⟨rfl, rfl⟩
            · exact hS2.2 _ _ hb
            · exact hfr.step x0 x1 g0 hd
          · rcases (hfb _ _).mp hb with hb | ⟨e, -⟩
            · exact hl2 _ _ hlt hb
            · omega
          · by_cases e : q' = q
            · exact (hfb _ _).mpr (Or.inr ⟨e, rfl⟩)
            · exact (hfb _ _).mpr (Or.inl (hc2 q' (by omega) a2 a3))
      · rintro M2 ⟨-, hf2, hS2, hm2, hl2, hc2⟩
        have e5 : sC_size M2 = n := (hf2.1 5 (by decide)).trans hX.1
        refine b30_43 ⟨fun _ => ⟨⟨by omega, by omega⟩, ih M2 ⟨hf2, hS2, fun q t hb => hm2 _ _ (hm1 _ _ hb), hl2, fun x' q a1 a2 a3 a4 => ?_⟩⟩, fun g => absurd (by omega) g⟩
        by_cases e : x' = x
        · subst e
          have := a4.rng hG hT
          exact hc2 q (by omega) a3 a4
        · exact hm2 _ _ (hc1 x' q a1 (by omega) a3 a4)
      · have := hd.rng hG hT
        omega
    refine b30_2 ⟨fun g => absurd g (by omega), fun _ => b13 ⟨⟨by omega, by omega⟩, ⟨by omega, by omega⟩, ⟨by omega, by omega⟩, ?_⟩⟩
    rw [eg]
    refine ⟨fun gne => g_m23 ⟨x0, x1⟩ ⟨by omega, by omega⟩ (row _ (hch.1 _ (by omega)) (fun q q0 => ?_)), fun ge => row 0 (by omega) (fun q q0 => ?_)⟩
    · rw [CHT.at hG hT hch ⟨x0, x1⟩ ⟨by omega, by omega⟩ q0]
      exact ⟨fun h => ⟨by omega, h⟩, fun h => h.2⟩
    · rw [bt_zero]
      have ge' : go (10 * s + x) = -1 := Decidable.of_not_not ge
      exact ⟨fun h => absurd h (by decide), fun h => by omega⟩
  · rintro M1 ⟨hf1, hS1, hm1, hl1, hc1⟩
    exact b30_2 ⟨fun _ => h M1 hf1 hS1 hm1 hl1 (fun x q a1 a2 a3 a4 => hc1 x q a1 a2 a3 a4), fun g => absurd (by omega) g⟩
end FRC
