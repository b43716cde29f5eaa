/-! The class's nodes in use: mark, holds -/
section CW
variable {G : gT} {n : Int} {w : Int → Int} {T : Int → Int → Int → Bool} {m i j : Int} {M M' : ev_M}
theorem cntB_zero {f : Nat → Bool} {N : Nat} (h : ∀ k, k < N → f k = false) : cntB f N = 0 := by
  induction N with
  | zero => rfl
  | succ N ih =>
    show cntB f N + (f N).toNat = 0
    rw [ih (fun k hk => h k (by omega)), h N (by omega)]
    rfl
theorem QU.le (hG : okG G) (hT : okT n w) (hD : isD G n w T) (h : QU G n T M) : 0 ≤ sU_count M ∧ sU_count M ≤ 396 := by
  have hn := hT.1
  have : ubc M ≤ 396 := by
    rw [← cnt396]
    refine cntB_mono (fun k hk hb => decide_eq_true ?_)
    have := (h.2.2.1 ((k / 121 : Nat) : Int) ((k / 11 % 11 : Nat) : Int) ((k % 11 : Nat) : Int) ⟨by omega, by omega, by omega, by
      rw [show (((k / 121 : Nat) : Int) * 11 + ((k / 11 % 11 : Nat) : Int)).toNat = k / 11 by omega, show (((k % 11 : Nat) : Int)).toNat = k % 11 by omega]; exact hb⟩).rng hG hT hD
    omega
  have := h.2.1
  omega
theorem g_m41 {Q : ev_M → Prop} (hG : okG G) (hT : okT n w) (hD : isD G n w T) (hC : isC G M) (hX : isX n w M) (hc : CHT G n w M) (h : ∀ M' : ev_M, fr [6] [16, 17, 18] M M' → UU G n T M' → Q M') : m41 M Q := by
  have hn := hT.1
  have gc := hG.1
  have hz : ∀ k : Nat, k < 66 → aU_ends (ev_sS (ev_fl M 16 66 0) 6 0) k = 0 := by
    intro k hk
    show (if 16 = 16 then (fun j => if j < 66 then 0 else M.2 16 j) else M.2 16) k = 0
    rw [if_pos rfl]
    exact if_pos hk
  have hf0 : fr [6] [16, 17, 18] M (ev_sS (ev_fl M 16 66 0) 6 0) := by
    have : fr [6] [16, 17, 18] M (ev_fl M 16 66 0) := ⟨fun _ _ => rfl, fun c hc => if_neg (fun e => hc (by rw [e]; decide))⟩
    exact this.sS (by decide)
  have nob : ∀ m i j : Int, ¬ ub (ev_sS (ev_fl M 16 66 0) 6 0) m i j := by
    rintro m i j ⟨b1, b2, b3, b4⟩
    rw [hz _ (by omega), bt_zero] at b4
    exact absurd b4 (by decide)
  have hQ0 : QU G n T (ev_sS (ev_fl M 16 66 0) 6 0) := by
    refine ⟨fun k hk => by rw [hz k hk]; omega, ?_, fun m i j hb => absurd hb (nob m i j), fun q q0 q1 => absurd (show q < 0 from q1) (by omega), fun m i j hb => absurd hb (nob m i j)⟩
    show (0 : Int) = ((ubc (ev_sS (ev_fl M 16 66 0) 6 0) : Nat) : Int)
    have : ubc (ev_sS (ev_fl M 16 66 0) 6 0) = 0 := cntB_zero (fun k hk => by rw [hz _ (by omega), bt_zero])
    rw [this]; rfl
  have hcF : ∀ M1 : ev_M, fr [6] [16, 17, 18] M M1 → CHT G n w M1 := fun M1 hf => hc.of (hf.2 12 (by decide))
  have hCF : ∀ M1 : ev_M, fr [6] [16, 17, 18] M M1 → isC G M1 := fun M1 hf => hC.of (hf.1 3 (by decide)) (hf.2 2 (by decide)) (hf.2 3 (by decide)) (hf.2 4 (by decide))
  have hXF : ∀ M1 : ev_M, fr [6] [16, 17, 18] M M1 → isX n w M1 := fun M1 hf => hX.of (hf.1 5 (by decide)) (hf.2 11 (by decide))
  -- the queue
  have main : ∀ M1 : ev_M, fr [6] [16, 17, 18] M M1 → QU G n T M1 → (T 0 0 n = true → ub M1 0 0 n) → c41_45 M1 Q := by
    intro M1 hf1 hQ1 hroot1
    refine b41_45 ?_
    have fin : ∀ (q : Int) (M2 : ev_M), fr [6] [16, 17, 18] M M2 → QU G n T M2 → (T 0 0 n = true → ub M2 0 0 n) → sU_count M2 ≤ q → (∀ (q' m i j : Int), 0 ≤ q' → q' < q → q' < sU_count M2 → aU_queue M2 q'.toNat = 121 * m + 11 * i + j → ub M2 m i j → ∀ x p e : Int, kid G T m i j x p e → ub M2 x p e) → c41_123 M2 Q := by
      intro q M2 hf2 hQ2 hr2 hle hk2
      refine b41_123 (h M2 hf2 ⟨hQ2.1, fun m i j => ⟨hQ2.2.2.1 m i j, fun hu => ?_⟩⟩)
      refine hu (ub M2) hr2 (fun m i j x p e hb hkd => ?_)
      obtain ⟨q', a0, a1, a2⟩ := hQ2.2.2.2.2 m i j hb
      exact hk2 q' m i j a0 (by omega) a1 a2 hb x p e hkd
    refine lp (σ := ev_M) (n := 396) (c := fun q M2 => c41_47 q M2 Q) (P := fun q M2 => fr [6] [16, 17, 18] M M2 ∧ QU G n T M2 ∧ (T 0 0 n = true → ub M2 0 0 n) ∧ (∀ (q' m i j : Int), 0 ≤ q' → q' < q → q' < sU_count M2 → aU_queue M2 q'.toNat = 121 * m + 11 * i + j → ub M2 m i j → ∀ x p e : Int, kid G T m i j x p e → ub M2 x p e)) ?_ ?_ (by omega) (by omega) ⟨hf1, hQ1, hroot1, fun q' m i j a0 a1 => by omega⟩
    · rintro q M2 q0 q1 ⟨hf2, hQ2, hr2, hk2⟩ ih
      refine b41_47 ⟨fun hle => fin q M2 hf2 hQ2 hr2 hle hk2, fun hlt => ⟨fun g => absurd g (by omega), fun _ => ⟨⟨q0, q1⟩, ?_⟩⟩⟩
      obtain ⟨m, i, j, hb, eq⟩ := hQ2.2.2.2.1 q q0 (by omega)
      have hu := hQ2.2.2.1 m i j hb
      have hrg := hu.rng hG hT hD
      rw [eq]
      refine lp (σ := ev_M) (n := gn G) (c := fun r M3 => c41_71 q (121 * m + 11 * i + j) r M3 Q) (P := fun r M3 => QT G n T M2 M3 ∧ ∀ (r' : Int) (d : Nat) (p e : Int), 0 ≤ r' → r' < r → gl G r' = m → d < (gz G r').toNat → gs G r' d ≤ 5 → pth G (der G n w) r' d i p → der G n w (gs G r' d) p e → sf G (der G n w) r' (gz G r').toNat ((gz G r').toNat - (d + 1)) e j → ub M3 (gs G r' d) p e) ?_ ?_ (by omega) gc.1 ⟨QT.refl hQ2, fun r' d p e a0 a1 => by omega⟩
      · rintro r M3 r0 r1 ⟨hq3, hk3⟩ ihr
        have hf3 := hf2.trans hq3.1
        have hC3 := hCF M3 hf3
        have e3 := hC3.1
        have el : aG_left M3 r.toNat = gl G r := (hC3.2 r r0 r1).1
        refine b41_71 ⟨fun g => absurd g (by omega), fun _ => ⟨⟨r0, by omega⟩, b36 ⟨⟨by omega, by omega⟩, ?_⟩⟩⟩
        rw [el, show (121 * m + 11 * i + j) / 121 = m by omega]
        refine ⟨fun hne => b41_111 ⟨⟨by omega, by omega⟩, ihr M3 ⟨hq3, fun r' d p e a0 a1 a2 => ?_⟩⟩, fun heq => b37 ⟨⟨by omega, by omega⟩, ⟨by omega, by omega⟩, b38 ⟨⟨by omega, by omega⟩, ?_⟩⟩⟩
        · by_cases e2 : r' = r
          · subst e2; exact absurd a2 hne
          · exact hk3 r' d p e a0 (by omega) a2
        · rw [show (121 * m + 11 * i + j) / 11 % 11 = i by omega, show (121 * m + 11 * i + j) % 11 = j by omega]
          refine g_m40 hG hT hD hC3 (hXF M3 hf3) (hcF M3 hf3) hq3.2.1 ⟨r0, r1⟩ (Decidable.of_not_not heq) hu (fun M4 hq4 hk4 => b41_111 ⟨⟨by omega, by omega⟩, ihr M4 ⟨hq3.trans hq4, fun r' d p e a0 a1 a2 a3 a4 a5 a6 a7 => ?_⟩⟩)
          by_cases e2 : r' = r
          · subst e2; exact hk4 d p e a3 a4 a5 a6 a7
          · exact hq4.2.2.1 _ _ _ (hk3 r' d p e a0 (by omega) a2 a3 a4 a5 a6 a7)
      · rintro M3 ⟨hq3, hk3⟩
        have hf3 := hf2.trans hq3.1
        have e3 := (hCF M3 hf3).1
        refine b41_71 ⟨fun _ => ⟨⟨by omega, by omega⟩, ih M3 ⟨hf3, hq3.2.1, fun hT0 => hq3.2.2.1 _ _ _ (hr2 hT0), fun q' m' i' j' a0 a1 a2 a3 a4 x p e hkd => ?_⟩⟩, fun g => absurd (by omega) g⟩
        have hqq := hq3.2.2.2.2 q' a0 (by omega)
        rw [hqq] at a3
        have hrg' := (hq3.2.1.2.2.1 _ _ _ a4).rng hG hT hD
        by_cases e2 : q' = q
        · subst e2
          rw [eq] at a3
          have e1 : m' = m := by omega
          have e2 : i' = i := by omega
          have e3 : j' = j := by omega
          subst e1; subst e2; subst e3
          obtain ⟨r, d, hr, hl, d1, d2, hx, h1, h2, h3⟩ := (kid_iff hG hT hD).mp hkd
          subst hx
          exact hk3 r d p e hr.1 hr.2 hl d1 d2 h1 h2 h3
        · obtain ⟨m2, i2, j2, hb2, hq2⟩ := hQ2.2.2.2.1 q' a0 (by omega)
          have hrg2 := (hQ2.2.2.1 _ _ _ hb2).rng hG hT hD
          rw [hq2] at a3
          have e1 : m' = m2 := by omega
          have e2 : i' = i2 := by omega
          have e3 : j' = j2 := by omega
          subst e1; subst e2; subst e3
          exact hq3.2.2.1 _ _ _ (hk2 q' m' i' j' a0 (by omega) (by omega) hq2 hb2 x p e hkd)
    · rintro M2 ⟨hf2, hQ2, hr2, hk2⟩
      have := hQ2.le hG hT hD
      exact b41_47 ⟨fun hle => fin 396 M2 hf2 hQ2 hr2 hle hk2, fun g => absurd this.2 g⟩
  refine b41 (m1_fill (n := 66) (by decide) (fun _ => rfl) (fun _ _ _ => rfl) ?_)
  have e5 : sC_size (ev_fl M 16 66 0) = n := hX.1
  have e5' : sC_size (ev_sS (ev_fl M 16 66 0) 6 0) = n := hX.1
  rw [e5]
  refine g_m24 hG hT (hcF _ hf0) (by omega) (by omega) (by omega) (fun hd => ⟨fun g => absurd g (by decide), fun _ => ?_⟩) (fun hd => ⟨fun _ => main _ hf0 hQ0 (fun ht => absurd ((hD _ _ _).mp ht) hd), fun g => absurd rfl g⟩)
  rw [e5']
  refine g_m35 hG hT hD hQ0 (usd.root ((hD _ _ _).mpr hd)) (fun M2 hs2 hb2 => main M2 (hf0.trans (hs2.1.mono (by decide) (by decide))) hs2.2.1 (fun _ => hb2))
theorem g_m34 {Q : Int → ev_M → Prop} (hU : UU G n T M) (hm : 0 ≤ m ∧ m < 6) (hi : 0 ≤ i ∧ i ≤ 10) (hj : 0 ≤ j ∧ j ≤ 10) (h1 : usd G n T m i j → Q 1 M) (h0 : ¬ usd G n T m i j → Q 0 M) : m34 m i j M Q := by
  have hk := hU.1 (m * 11 + i).toNat (by omega)
  refine b34 ⟨⟨by omega, by omega⟩, ⟨by omega, by omega⟩, ⟨by omega, by omega⟩, ⟨hk.1, by omega⟩, ⟨by omega, by omega⟩, sr_i hk, fun g => b34_23 ⟨Or.inl rfl, h0 (fun hu => ?_)⟩, fun g => b34_23 ⟨Or.inr rfl, h1 ((hU.2 m i j).mp ⟨hm, hi, hj, ?_⟩)⟩⟩
  · have := ((hU.2 m i j).mpr hu).2.2.2
    rw [bt_sr.mp g] at this
    exact absurd this (by decide)
  · cases hc : bt (aU_ends M (m * 11 + i).toNat) j.toNat with
    | true => rfl
    | false => exact absurd (bt_sr.mpr hc) g
end CW
