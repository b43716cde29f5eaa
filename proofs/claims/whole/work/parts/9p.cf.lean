/-! The class's chart: fill, and reading it -/
section CF
variable {G : gT} {n : Int} {w : Int → Int} {M M' : ev_M} {x i j : Int}
theorem g_m28 {Q : ev_M → Prop} (hG : okG G) (hT : okT n w) (hC : isC G M) (hX : isX n w M) (h : ∀ M' : ev_M, fr [] [12] M M' → CHT G n w M' → Q M') : m28 M Q := by
  have hn := hT.1
  have gc := hG.1
  have hf0 : fr [] [12] M (ev_fl M 12 110 0) := ⟨fun _ _ => rfl, fun c hc => if_neg (fun e => hc (by rw [e]; decide))⟩
  have hz : ∀ k : Nat, k < 110 → aC_ends (ev_fl M 12 110 0) k = 0 := by
    intro k hk
    show (if 12 = 12 then (fun j => if j < 110 then 0 else M.2 12 j) else M.2 12) k = 0
    rw [if_pos rfl]
    exact if_pos hk
  refine b28 (m1_fill (n := 110) (by decide) (fun _ => rfl) (fun _ _ _ => rfl) ?_)
  refine lp (σ := ev_M) (n := n) (c := fun q M1 => c28_10 q M1 Q) (P := fun q M1 => fr [] [12] M M1 ∧ chS G n w M1 ∧ ∀ q' : Int, 0 ≤ q' → q' < q → tb M1 (w q') q' (q' + 1)) ?_ ?_ (by omega) hn.1 ⟨hf0, ⟨fun k hk => by rw [hz k hk]; omega, fun x i j x0 x1 hb => ?_⟩, fun q' a1 a2 => by omega⟩
  · rintro q M1 q0 q1 ⟨hf, hs, hw⟩ ih
    have hX1 : isX n w M1 := hX.of (hf.1 5 (by decide)) (hf.2 11 (by decide))
    have e5 := hX1.1
    have et := hX1.2 q q0 q1
    have hwq := hT.2 q q0 q1
    refine b28_10 ⟨fun g => absurd g (by omega), fun _ => ⟨⟨q0, by omega⟩, ?_⟩⟩
    rw [et]
    refine ⟨⟨by omega, by omega⟩, ⟨by omega, by omega⟩, ⟨by omega, by omega⟩, ⟨by omega, by omega⟩, sl_i2 ⟨by omega, by omega⟩, ⟨by omega, by omega⟩, ⟨by omega, by omega⟩, ih _ ⟨hf.sA (by decide), ⟨fun k hk => ?_, fun x i j x0 x1 hb => ?_⟩, fun q' a1 a2 => ?_⟩⟩
    · show 0 ≤ (ev_sA M1 12 (w q * 11 + q).toNat (tm_sl 1 (q + 1))).2 12 k ∧ (ev_sA M1 12 (w q * 11 + q).toNat (tm_sl 1 (q + 1))).2 12 k < 2048
      by_cases e : k = (w q * 11 + q).toNat
      · rw [e, sA_same]; exact sl_rng (n := 11) (by omega)
      · rw [sA_ne e]; exact hs.1 k hk
    · obtain ⟨a1, a2, a3⟩ := hb
      have a3' : bt ((ev_sA M1 12 (w q * 11 + q).toNat (tm_sl 1 (q + 1))).2 12 (x * 11 + i).toNat) j.toNat = true := a3
      by_cases e : (x * 11 + i).toNat = (w q * 11 + q).toNat
      · rw [e, sA_same, bt_sl, decide_eq_true_iff] at a3'
        have ex : x = w q := by omega
        have ei : i = q := by omega
        have ej : j = q + 1 := by omega
        rw [ex, ei, ej]
        exact der.word q0 q1
      · rw [sA_ne e] at a3'
        exact hs.2 x i j x0 x1 ⟨a1, a2, a3'⟩
    · refine ⟨⟨a1, by omega⟩, by omega, ?_⟩
      show bt ((ev_sA M1 12 (w q * 11 + q).toNat (tm_sl 1 (q + 1))).2 12 (w q' * 11 + q').toNat) (q' + 1).toNat = true
      by_cases e : q' = q
      · rw [e, sA_same, bt_sl, decide_eq_true_iff]
      · have hwq' := hT.2 q' a1 (by omega)
        rw [sA_ne (by omega)]
        exact (hw q' a1 (by omega)).2.2
  · rintro M1 ⟨hf, hs, hw⟩
    have hX1 : isX n w M1 := hX.of (hf.1 5 (by decide)) (hf.2 11 (by decide))
    have e5 := hX1.1
    refine b28_10 ⟨fun _ => ?_, fun g => absurd (by omega) g⟩
    rw [e5]
    refine lpd (σ := ev_M) (c := fun p M1 => c28_50 p M1 Q) (P := fun p M1 => p ≤ n ∧ fr [] [12] M M1 ∧ chS G n w M1 ∧ (∀ q' : Int, 0 ≤ q' → q' < n → tb M1 (w q') q' (q' + 1)) ∧ ∀ x i j : Int, p < i → der G n w x i j → tb M1 x i j) ?_ ?_ (by omega) ⟨by omega, hf, hs, hw, fun x i j hi hd => ?_⟩
    · rintro p M1 p0 ⟨p1, hf, hs, hw, hd⟩ ih
      have hX1 : isX n w M1 := hX.of (hf.1 5 (by decide)) (hf.2 11 (by decide))
      have hC1 : isC G M1 := hC.of (hf.1 3 (by decide)) (hf.2 2 (by decide)) (hf.2 3 (by decide)) (hf.2 4 (by decide))
      refine b28_50 ⟨fun g => absurd g (by omega), fun _ => g_m27 hG hT hC1 hX1 hs ⟨p0, p1⟩ (fun M2 hf2 hs2 hm2 hcl => ⟨⟨by omega, by omega⟩, ih M2 ⟨by omega, hf.trans hf2, hs2, fun q' a1 a2 => hm2 _ _ _ (hw q' a1 a2), fun x i j hi hdr => ?_⟩⟩)⟩
      by_cases e : i = p
      · subst e
        -- the rows of this place are closed
        have main : i ≤ j ∧ (i ≤ i → tb M2 x i j) := by
          refine hdr (fun x a b => a ≤ b ∧ (i ≤ a → tb M2 x a b)) (fun q q0 q1 => ⟨by omega, fun _ => hm2 _ _ _ (hw q q0 q1)⟩) (fun r a b r0 r1 a0 a1 hpt => ⟨pth_le (fun x a b h => h.1) hpt, fun hia => ?_⟩)
          have hpt2 : pth G (tb M2) r (gz G r).toNat a b := by
            have gen : ∀ (k : Nat) (b : Int), pth G (fun x a b => a ≤ b ∧ (i ≤ a → tb M2 x a b)) r k a b → a ≤ b ∧ pth G (tb M2) r k a b := by
              intro k
              induction k with
              | zero => intro b hb; exact ⟨Int.le_of_eq hb, hb⟩
              | succ k ihk =>
                rintro b ⟨m, m1, m2⟩
                obtain ⟨u1, u2⟩ := ihk m m1
                exact ⟨Int.le_trans u1 m2.1, m, u2, m2.2 (by omega)⟩
            exact (gen _ b hpt).2
          by_cases e2 : a = i
          · subst e2
            exact hcl r b r0 r1 hpt2
          · refine hm2 _ _ _ (hd _ _ _ (by omega) (der.rule r0 r1 a0 a1 (pth_mono (fun d hdl u v huv => ?_) hpt2)))
            have hg := (hG.2 r r0 r1)
            have := hg.2.2 d (by omega) (by omega)
            exact hs2.2 _ _ _ this.1 this.2 huv
        exact main.2 (Int.le_refl _)
      · exact hm2 _ _ _ (hd x i j (by omega) hdr)
    · rintro M1 ⟨-, hf, hs, hw, hd⟩
      refine b28_50 ⟨fun _ => h M1 hf ⟨hs.1, fun x i j x0 x1 => ⟨hs.2 x i j x0 x1, fun hdr => hd x i j ?_ hdr⟩⟩, fun g => absurd (by omega) g⟩
      have := hdr.rng hG hT
      omega
    · have := hd.rng hG hT
      omega
  · obtain ⟨a1, a2, a3⟩ := hb
    rw [hz _ (by omega), bt_zero] at a3
    exact absurd a3 (by decide)
theorem CHT.of (h : CHT G n w M) (e : M'.2 12 = M.2 12) : CHT G n w M' := by
  unfold CHT chR tb at h ⊢
  simp only [aC_ends] at h ⊢
  rw [e]
  exact h
theorem CHT.at (hG : okG G) (hT : okT n w) (h : CHT G n w M) (x0 : 0 ≤ x ∧ x < 10) (i0 : 0 ≤ i ∧ i ≤ 10) (j0 : 0 ≤ j) : bt (aC_ends M (x * 11 + i).toNat) j.toNat = true ↔ der G n w x i j := by
  rw [← h.2 x i j x0.1 x0.2]
  exact ⟨fun hb => ⟨i0, j0, hb⟩, fun hb => hb.2.2⟩
theorem g_m20 {Q : Int → ev_M → Prop} (hG : okG G) (hT : okT n w) (h : CHT G n w M) (x0 : 0 ≤ x ∧ x < 10) (h1 : x < 6 → nul G x → Q 1 M) (h0 : ¬ (x < 6 ∧ nul G x) → Q 0 M) : m20 x M Q := by
  have hk := h.1 (x * 11).toNat (by omega)
  have hb := CHT.at (i := 0) (j := 0) hG hT h x0 (by omega) (by omega)
  rw [show x * 11 + 0 = x * 11 by omega] at hb
  have hn := hT.1
  have hd : der G n w x 0 0 ↔ (x < 6 ∧ nul G x) := ⟨fun h => h.toNul hG rfl, fun h => h.2.toDer hG 0 (by omega) hn.1⟩
  have an : tm_an (aC_ends M (x * 11).toNat) 1 = 0 ↔ bt (aC_ends M (x * 11).toNat) 0 = false := bt_sr (x := aC_ends M (x * 11).toNat) (y := 0)
  refine b20 ⟨⟨by omega, by omega⟩, ⟨by omega, by omega⟩, ⟨hk.1, by omega⟩, fun g => b20_19 ⟨Or.inl rfl, h0 (fun hn2 => ?_)⟩, fun g => b20_19 ⟨Or.inr rfl, ?_⟩⟩
  · have := hb.mpr (hd.mpr hn2)
    have h2 := an.mp g
    rw [show (0 : Int).toNat = 0 from rfl, h2] at this
    exact absurd this (by decide)
  · have : bt (aC_ends M (x * 11).toNat) 0 = true := by
      cases hc : bt (aC_ends M (x * 11).toNat) 0 with
      | true => rfl
      | false => exact absurd (an.mpr hc) g
    have := hd.mp (hb.mp this)
    exact h1 this.1 this.2
theorem g_m23 {Q : Int → ev_M → Prop} (x0 : 0 ≤ x ∧ x < 10) (i0 : 0 ≤ i ∧ i ≤ 10) (h : Q (aC_ends M (x * 11 + i).toNat) M) : m23 x i M Q := b23 ⟨⟨by omega, by omega⟩, ⟨by omega, by omega⟩, ⟨by omega, by omega⟩, h⟩
theorem g_m24 {Q : Int → ev_M → Prop} (hG : okG G) (hT : okT n w) (h : CHT G n w M) (x0 : 0 ≤ x ∧ x < 10) (i0 : 0 ≤ i ∧ i ≤ 10) (j0 : 0 ≤ j ∧ j ≤ 10) (h1 : der G n w x i j → Q 1 M) (h0 : ¬ der G n w x i j → Q 0 M) : m24 x i j M Q := by
  have hk := h.1 (x * 11 + i).toNat (by omega)
  have hb := CHT.at hG hT h x0 i0 j0.1
  refine b24 ⟨⟨by omega, by omega⟩, ⟨by omega, by omega⟩, ⟨by omega, by omega⟩, ⟨hk.1, by omega⟩, ⟨by omega, by omega⟩, ?_, fun g => b24_23 ⟨Or.inl rfl, h0 (fun hd => ?_)⟩, fun g => b24_23 ⟨Or.inr rfl, h1 (hb.mp ?_)⟩⟩
  · have h3 : (aC_ends M (x * 11 + i).toNat).toNat >>> j.toNat ≤ (aC_ends M (x * 11 + i).toNat).toNat := Nat.shiftRight_le _ _
    refine ⟨Int.natCast_nonneg _, ?_⟩
    show (((aC_ends M (x * 11 + i).toNat).toNat >>> j.toNat : Nat) : Int) < 2147483648
    omega
  · have := hb.mpr hd
    rw [bt_sr.mp g] at this
    exact absurd this (by decide)
  · cases hc : bt (aC_ends M (x * 11 + i).toNat) j.toNat with
    | true => rfl
    | false => exact absurd (bt_sr.mpr hc) g
end CF
