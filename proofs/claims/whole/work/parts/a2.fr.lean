/-! The class's frontier: leave, fill -/
section FRD
variable {G : gT} {n c : Int} {w go : Int → Int} {M M' : ev_M} {p : Int}
def lcn (L : Int) : Nat := cntB (fun k => bt L k) 60
theorem g_m31 {Q : ev_M → Prop} (hG : okG G) (hT : okT n w) (hR : goR c go) (hX : isX n w M) (hc : CHT G n w M) (hA : isG c go M) (hS : fS G n w go M) (hp : 0 ≤ p ∧ p ≤ n) (h : ∀ M' : ev_M, fr [] [14] M M' → fS G n w go M' → (∀ q t : Int, fb M q t → fb M' q t) → (∀ q t : Int, q < p → fb M' q t → fb M q t) → (∀ s : Int, fb M' p s → fC G n w go M' p s) → Q M') : m31 p M Q := by
  have hn := hT.1
  have hcr := hR.1
  -- the end
  have fin : ∀ (L : Int) (M1 : ev_M), fr [] [14] M M1 → fS G n w go M1 → (∀ q t : Int, fb M q t → fb M1 q t) → (∀ q t : Int, q < p → fb M1 q t → fb M q t) → (∀ s : Int, 0 ≤ s → s < 60 → bt L s.toNat = true → fC G n w go M1 p s) → (∀ s : Int, fb M1 p s → bt L s.toNat = true) → c31_92 M1 Q := by
    intro L M1 hf1 hS1 hm1 hl1 hc1 hsub
    exact b31_92 (h M1 hf1 hS1 hm1 hl1 (fun s hb => hc1 s hb.2.1.1 hb.2.1.2 (hsub s hb)))
  have key : ∀ (k : Nat) (t L : Int) (M1 : ev_M), 60 - t ≤ k → 0 ≤ t → t ≤ 60 → (0 ≤ L ∧ L < 1152921504606846976) → t ≤ (lcn L : Int) → fr [] [14] M M1 → fS G n w go M1 → (∀ q t : Int, fb M q t → fb M1 q t) → (∀ q t : Int, q < p → fb M1 q t → fb M q t) → (∀ s : Int, 0 ≤ s → s < 60 → bt L s.toNat = true → fC G n w go M1 p s) → c31_5 p L t M1 Q := by
    intro k
    induction k with
    | zero =>
      intro t L M1 hk t0 t1 hL hcn hf1 hS1 hm1 hl1 hc1
      have h60 : lcn L ≤ 60 := cntB_le
      have hfull := cntB_full (f := fun k => bt L k) (n := 60) (show lcn L = 60 by omega)
      exact b31_5 ⟨fun _ => fin L M1 hf1 hS1 hm1 hl1 hc1 (fun s hb => hfull s.toNat (by have := hb.2.1; omega)), fun g => absurd (by omega) g⟩
    | succ k ihk =>
      intro t L M1 hk t0 t1 hL hcn hf1 hS1 hm1 hl1 hc1
      by_cases ht : t = 60
      · have h60 : lcn L ≤ 60 := cntB_le
        have hfull := cntB_full (f := fun k => bt L k) (n := 60) (show lcn L = 60 by omega)
        exact b31_5 ⟨fun _ => fin L M1 hf1 hS1 hm1 hl1 hc1 (fun s hb => hfull s.toNat (by have := hb.2.1; omega)), fun g => absurd (by omega) g⟩
      have hat := hS1.1 p.toNat (by omega)
      obtain ⟨z, ez, hz, hzb⟩ := l2_an (x := aF_at M1 p.toNat) (y := L) (by omega) (by omega)
      refine b31_5 ⟨fun g => absurd g (by omega), fun _ => ⟨⟨hp.1, by omega⟩, fun g0 => ?_, fun g0 => ?_⟩⟩
      · rw [ez] at g0
        refine fin L M1 hf1 hS1 hm1 hl1 hc1 (fun s hb => ?_)
        have h1 := hzb s.toNat (by have := hb.2.1; omega)
        rw [g0, bt_zero, hb.2.2] at h1
        cases h2 : bt L s.toNat with
        | true => rfl
        | false => rw [h2] at h1; exact absurd h1 (by decide)
      · rw [ez] at g0
        -- a state that is new
        have hex : ∃ s : Int, fb M1 p s ∧ bt L s.toNat = false := by
          refine Classical.byContradiction (fun hno => g0 (bt_ext hz.1 (by omega) (fun j => ?_)))
          rw [bt_zero]
          refine Bool.eq_false_iff.mpr (fun hb => ?_)
          by_cases hj : j < 60
          · have h1 := hzb j (by omega)
            rw [hb] at h1
            cases h2 : bt (aF_at M1 p.toNat) j with
            | false => rw [h2, Bool.false_and] at h1; exact absurd h1 (by decide)
            | true =>
              cases h3 : bt L j with
              | true => rw [h2, h3] at h1; exact absurd h1 (by decide)
              | false => exact hno ⟨(j : Int), ⟨⟨hp.1, by omega⟩, by omega, by rw [show ((j : Int)).toNat = j by omega]; exact h2⟩, by rw [show ((j : Int)).toNat = j by omega]; exact h3⟩
          · rw [bt_hi (n := 60) (x := z) (show z < ((2 ^ 60 : Nat) : Int) from Int.lt_of_le_of_lt hz.2 hat.2) (by omega)] at hb
            exact absurd hb (by decide)
        refine lp (σ := Int × ev_M) (n := c) (c := fun s σ => c31_32 p σ.1 t s σ.2 Q) (P := fun s σ => (0 ≤ σ.1 ∧ σ.1 < 1152921504606846976) ∧ (∀ j : Nat, bt L j = true → bt σ.1 j = true) ∧ fr [] [14] M σ.2 ∧ fS G n w go σ.2 ∧ (∀ q t : Int, fb M1 q t → fb σ.2 q t) ∧ (∀ q t : Int, q < p → fb σ.2 q t → fb M q t) ∧ (∀ s : Int, 0 ≤ s → s < 60 → bt σ.1 s.toNat = true → fC G n w go σ.2 p s) ∧ ∀ s' : Int, s' < s → fb M1 p s' → bt σ.1 s'.toNat = true) ?_ ?_ (r := 0) (s := (L, M1)) (by omega) (by omega) ⟨hL, fun _ h => h, hf1, hS1, fun _ _ h => h, hl1, hc1, fun s' a1 hb => by have := hb.2.1; omega⟩
        · rintro s ⟨L2, M2⟩ s0 s1 ⟨hL2, hLL, hf2, hS2, hm2, hl2, hc2, hd2⟩ ih
          dsimp only at hL2 hLL hf2 hS2 hm2 hl2 hc2 hd2 ih ⊢
          have e4 : sA_count M2 = c := (hf2.1 4 (by decide)).trans hA.1
          have hat2 := hS2.1 p.toNat (by omega)
          obtain ⟨z2, ez2, hz2, hzb2⟩ := l2_an (x := aF_at M2 p.toNat) (y := L2) (by omega) (by omega)
          have hsl := sl_rng (y := s) (n := 63) (by omega)
          refine b31_32 ⟨fun g => absurd g (by omega), fun _ => ⟨⟨hp.1, by omega⟩, ⟨s0, by omega⟩, pow_rng (by omega), ?_⟩⟩
          rw [ez2]
          have hb1 := hzb2 s.toNat (by omega)
          refine ⟨⟨hz2.1, by omega⟩, hsl, fun g => b31_80 ⟨⟨by omega, by omega⟩, ih (L2, M2) ⟨hL2, hLL, hf2, hS2, hm2, hl2, hc2, fun s' a1 hb => ?_⟩⟩, fun g => ⟨⟨s0, by omega⟩, pow_rng (by omega), ⟨hL2.1, by omega⟩, hsl, ?_⟩⟩
          · by_cases e : s' = s
            · subst e
              rw [bt_an.mp g, (hm2 _ _ hb).2.2] at hb1
              cases h2 : bt L2 s'.toNat with
              | true => rfl
              | false => rw [h2] at hb1; exact absurd hb1 (by decide)
            · exact hd2 s' (by omega) hb
          · have hzs : bt z2 s.toNat = true := by
              cases h2 : bt z2 s.toNat with
              | true => rfl
              | false => exact absurd (bt_an.mpr h2) g
            rw [hzs] at hb1
            have hats : bt (aF_at M2 p.toNat) s.toNat = true := by
              cases h2 : bt (aF_at M2 p.toNat) s.toNat with
              | true => rfl
              | false => rw [h2, Bool.false_and] at hb1; exact absurd hb1 (by decide)
            have hfb : fb M2 p s := ⟨⟨hp.1, by omega⟩, ⟨s0, by omega⟩, hats⟩
            have hX2 : isX n w M2 := hX.of (hf2.1 5 (by decide)) (hf2.2 11 (by decide))
            have hch2 : CHT G n w M2 := hc.of (hf2.2 12 (by decide))
            have hA2 : isG c go M2 := by
              unfold isG at hA ⊢
              simp only [sA_count, aA_goal] at hA ⊢
              rw [hf2.1 4 (by decide), hf2.2 8 (by decide)]
              exact hA
            refine g_m30 hG hT hR hX2 hch2 hA2 hS2 (hS2.2 _ _ hfb) (fun M3 hf3 hS3 hm3 hl3 hc3 => b31_80 ⟨⟨by omega, by omega⟩, ih (tm_or L2 (tm_sl 1 s), M3) ⟨or_rng (n := 60) hL2 (by omega), fun j hj => ?_, hf2.trans hf3, hS3, fun q t hb => hm3 _ _ (hm2 _ _ hb), fun q t hlt hb => hl2 _ _ hlt (hl3 _ _ hlt hb), fun s' a0 a1 hb => ?_, fun s' a1 hb => ?_⟩⟩)
            · show bt (tm_or L2 (tm_sl 1 s)) j = true
              rw [bt_or, hLL j hj]; rfl
            · have hb : bt (tm_or L2 (tm_sl 1 s)) s'.toNat = true := hb
              rw [bt_or, Bool.or_eq_true, decide_eq_true_iff] at hb
              rcases hb with hb | hb
              · exact (hc2 s' a0 a1 hb).mono hm3
              · have e : s' = s := by omega
                rw [e]; exact hc3
            · show bt (tm_or L2 (tm_sl 1 s)) s'.toNat = true
              rw [bt_or]
              by_cases e : s' = s
              · rw [decide_eq_true (by omega), Bool.or_true]
              · rw [hd2 s' (by omega) hb]; rfl
        · rintro ⟨L2, M2⟩ ⟨hL2, hLL, hf2, hS2, hm2, hl2, hc2, hd2⟩
          dsimp only at hL2 hLL hf2 hS2 hm2 hl2 hc2 hd2 ⊢
          have e4 : sA_count M2 = c := (hf2.1 4 (by decide)).trans hA.1
          refine b31_32 ⟨fun _ => ⟨⟨by omega, by omega⟩, ihk (t + 1) L2 M2 (by omega) (by omega) (by omega) hL2 ?_ hf2 hS2 (fun q t hb => hm2 _ _ (hm1 _ _ hb)) hl2 hc2⟩, fun g => absurd (by omega) g⟩
          obtain ⟨s, hb, hs⟩ := hex
          have hsr := (hS1.2 _ _ hb).rng hG hT hR
          have : lcn L < lcn L2 := cntB_lt (k := s.toNat) (fun j _ hj => hLL j hj) (by omega) hs (hd2 s (by omega) hb)
          omega
  exact b31 (key 60 0 0 M (by omega) (by omega) (by omega) (by omega) (by omega) fr.refl hS (fun _ _ h => h) (fun _ _ _ h => h) (fun s _ _ hb => by rw [bt_zero] at hb; exact absurd hb (by decide)))
theorem g_m32 {Q : ev_M → Prop} (hG : okG G) (hT : okT n w) (hR : goR c go) (hX : isX n w M) (hc : CHT G n w M) (hA : isG c go M) (h : ∀ M' : ev_M, fr [] [14] M M' → FRC G n w go M' → Q M') : m32 M Q := by
  have hn := hT.1
  have hcr := hR.1
  refine b32 (m2_fill (n := 11) (by decide) (fun _ => rfl) (fun _ _ _ => rfl) ?_)
  have hz : ∀ k : Nat, k < 11 → aF_at (ev_sA (ev_fl M 14 11 0) 14 0 1) k = if k = 0 then 1 else 0 := by
    intro k hk
    show (ev_sA (ev_fl M 14 11 0) 14 0 1).2 14 k = _
    by_cases e : k = 0
    · rw [if_pos e, e, sA_same]
    · rw [if_neg e, sA_ne e]
      show (if 14 = 14 then (fun j => if j < 11 then 0 else M.2 14 j) else M.2 14) k = 0
      rw [if_pos rfl]
      exact if_pos hk
  have hf0 : fr [] [14] M (ev_sA (ev_fl M 14 11 0) 14 0 1) := by
    have : fr [] [14] M (ev_fl M 14 11 0) := ⟨fun _ _ => rfl, fun c hc => if_neg (fun e => hc (by rw [e]; decide))⟩
    exact this.sA (by decide)
  have e1 : (1 : Int) = ((2 ^ 0 : Nat) : Int) := by decide
  have hfb0 : ∀ q t : Int, fb (ev_sA (ev_fl M 14 11 0) 14 0 1) q t ↔ (q = 0 ∧ t = 0) := by
    intro q t
    unfold fb
    constructor
    · rintro ⟨b1, b2, b3⟩
      rw [hz _ (by omega)] at b3
      by_cases e : q.toNat = 0
      · rw [if_pos e, e1, bt_pow, decide_eq_true_iff] at b3
        exact ⟨by omega, by omega⟩
      · rw [if_neg e, bt_zero] at b3
        exact absurd b3 (by decide)
    · rintro ⟨rfl, rfl⟩
      refine ⟨by omega, by omega, ?_⟩
      rw [hz _ (by decide), if_pos (by decide), e1, bt_pow]
      rfl
  refine lp (σ := ev_M) (n := n + 1) (c := fun q M1 => c32_17 q M1 Q) (P := fun q M1 => fr [] [14] M M1 ∧ fS G n w go M1 ∧ fb M1 0 0 ∧ ∀ q' s : Int, q' < q → fb M1 q' s → fC G n w go M1 q' s) ?_ ?_ (by omega) (by omega) ⟨hf0, ⟨fun k hk => ?_, fun q t hb => ?_⟩, (hfb0 0 0).mpr ⟨rfl, rfl⟩, fun q' s a1 hb => by have := hb.1; omega⟩
  · rintro q M1 q0 q1 ⟨hf1, hS1, hr1, hc1⟩ ih
    have hX1 : isX n w M1 := hX.of (hf1.1 5 (by decide)) (hf1.2 11 (by decide))
    have hch1 : CHT G n w M1 := hc.of (hf1.2 12 (by decide))
    have hA1 : isG c go M1 := by
      unfold isG at hA ⊢
      simp only [sA_count, aA_goal] at hA ⊢
      rw [hf1.1 4 (by decide), hf1.2 8 (by decide)]
      exact hA
    have e5 := hX1.1
    refine b32_17 ⟨fun g => absurd g (by omega), fun _ => g_m31 hG hT hR hX1 hch1 hA1 hS1 ⟨q0, by omega⟩ (fun M2 hf2 hS2 hm2 hl2 hc2 => ⟨⟨by omega, by omega⟩, ih M2 ⟨hf1.trans hf2, hS2, hm2 _ _ hr1, fun q' s a1 hb => ?_⟩⟩)⟩
    by_cases e : q' = q
    · rw [e] at hb ⊢; exact hc2 s hb
    · exact (hc1 q' s (by omega) (hl2 _ _ (by omega) hb)).mono hm2
  · rintro M1 ⟨hf1, hS1, hr1, hc1⟩
    have e5 : sC_size M1 = n := (hf1.1 5 (by decide)).trans hX.1
    refine b32_17 ⟨fun _ => h M1 hf1 ⟨hS1.1, fun q t => ⟨hS1.2 q t, fun hfr => ?_⟩⟩, fun g => absurd (by omega) g⟩
    refine hfr (fb M1) hr1 (fun q s x q2 hF x0 x1 hg hd => ?_)
    have := hd.rng hG hT
    exact hc1 q s (by omega) hF x q2 x0 x1 hg hd
  · rw [hz k hk]
    split <;> omega
  · obtain ⟨rfl, rfl⟩ := (hfb0 _ _).mp hb
    exact fro.start
theorem FRC.of (h : FRC G n w go M) (e : M'.2 14 = M.2 14) : FRC G n w go M' := by
  unfold FRC fR fb at h ⊢
  simp only [aF_at] at h ⊢
  rw [e]
  exact h
end FRD
