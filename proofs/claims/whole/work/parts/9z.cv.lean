/-! The class's nodes in use: takeParts, mark -/
section CV
variable {G : gT} {n : Int} {w : Int → Int} {T : Int → Int → Int → Bool} {m i j r : Int} {M M' : ev_M}
theorem QU.of (h : QU G n T M) (e6 : M'.1 6 = M.1 6) (e16 : M'.2 16 = M.2 16) (e17 : M'.2 17 = M.2 17) : QU G n T M' := by
  unfold QU ubR ubc ub at h ⊢
  simp only [sU_count, aU_ends, aU_queue] at h ⊢
  rw [e6, e16, e17]
  exact h
def QT (G : gT) (n : Int) (T : Int → Int → Int → Bool) (M M' : ev_M) : Prop := fr [6] [16, 17, 18] M M' ∧ QU G n T M' ∧ (∀ m i j : Int, ub M m i j → ub M' m i j) ∧ sU_count M ≤ sU_count M' ∧ ∀ q : Int, 0 ≤ q → q < sU_count M → aU_queue M' q.toNat = aU_queue M q.toNat
theorem QT.refl (h : QU G n T M) : QT G n T M M := ⟨fr.refl, h, fun _ _ _ h => h, Int.le_refl _, fun _ _ _ => rfl⟩
theorem QT.trans {M2 : ev_M} (h1 : QT G n T M M') (h2 : QT G n T M' M2) : QT G n T M M2 := ⟨h1.1.trans h2.1, h2.2.1, fun m i j h => h2.2.2.1 m i j (h1.2.2.1 m i j h), Int.le_trans h1.2.2.2.1 h2.2.2.2.1, fun q q0 q1 => (h2.2.2.2.2 q q0 (by have := h1.2.2.2.1; omega)).trans (h1.2.2.2.2 q q0 q1)⟩
theorem g_m40 {Q : ev_M → Prop} (hG : okG G) (hT : okT n w) (hD : isD G n w T) (hC : isC G M) (hX : isX n w M) (hc : CHT G n w M) (hQ : QU G n T M) (hr : 0 ≤ r ∧ r < gn G) (hl : gl G r = m) (hu : usd G n T m i j)
    (h : ∀ M' : ev_M, QT G n T M M' → (∀ (d : Nat) (p q : Int), d < (gz G r).toNat → gs G r d ≤ 5 → pth G (der G n w) r d i p → der G n w (gs G r d) p q → sf G (der G n w) r (gz G r).toNat ((gz G r).toNat - (d + 1)) q j → ub M' (gs G r d) p q) → Q M') : m40 r i j M Q := by
  have hn := hT.1
  have gc := hG.1
  have hrg := hu.rng hG hT hD
  have hg := hG.2 r hr.1 hr.2
  have hz := hg.2.1
  obtain ⟨-, esz, esy⟩ := hC.2 r hr.1 hr.2
  have hQ0 : QU G n T (ev_sA M 18 0 (tm_sl 1 i)) := hQ.of rfl rfl rfl
  have hf0 : fr [] [18] M (ev_sA M 18 0 (tm_sl 1 i)) := fr.refl.sA (by decide)
  refine b40 ⟨⟨by omega, by omega⟩, sl_i2 ⟨by omega, by omega⟩, ?_⟩
  -- the way down
  have down : ∀ M1 : ev_M, fr [] [18] M M1 → (∀ d : Int, 0 ≤ d → d < gz G r → (0 ≤ aU_reached M1 d.toNat ∧ aU_reached M1 d.toNat < 2048) ∧ ∀ p : Int, 0 ≤ p → (bt (aU_reached M1 d.toNat) p.toNat = true ↔ pth G (der G n w) r d.toNat i p)) → c40_85 r (tm_sl 1 j) (gz G r - 1) M1 Q := by
    intro M1 hf1 hre
    have hQ1 : QU G n T M1 := hQ.of (hf1.1 6 (by decide)) (hf1.2 16 (by decide)) (hf1.2 17 (by decide))
    refine lpd (σ := Int × ev_M) (c := fun d s => c40_85 r s.1 d s.2 Q) (P := fun d s => d < gz G r ∧ QS G n T M1 s.2 ∧ s.2.2 18 = M1.2 18 ∧ (0 ≤ s.1 ∧ s.1 < 2048) ∧ (∀ e : Int, 0 ≤ e → bt s.1 e.toNat = true → sf G (der G n w) r (gz G r).toNat ((gz G r).toNat - (d + 1).toNat) e j) ∧ (∀ e : Int, 0 ≤ e → pth G (der G n w) r (d + 1).toNat i e → sf G (der G n w) r (gz G r).toNat ((gz G r).toNat - (d + 1).toNat) e j → bt s.1 e.toNat = true) ∧ ∀ (d' : Nat) (p q : Int), d < (d' : Int) → d' < (gz G r).toNat → gs G r d' ≤ 5 → pth G (der G n w) r d' i p → der G n w (gs G r d') p q → sf G (der G n w) r (gz G r).toNat ((gz G r).toNat - (d' + 1)) q j → ub s.2 (gs G r d') p q) ?_ ?_ (r := gz G r - 1) (s := (tm_sl 1 j, M1)) (by omega) ⟨by omega, QS.refl hQ1, rfl, sl_rng (n := 11) (by omega), fun e e0 hb => ?_, fun e e0 _ hs => ?_, fun d' p q h1 h2 => by omega⟩
    · rintro d ⟨W, M2⟩ d0 ⟨d1, hs, e18, hW, hw1, hw2, hk⟩ ih
      dsimp only at hs e18 hW hw1 hw2 hk ih ⊢
      have hsy := hg.2.2 d d0 d1
      have hfc := hs.1
      have esy2 : gR M2 r d = gs G r d := by
        have : M2.2 4 = M.2 4 := (hfc.2 4 (by decide)).trans (hf1.2 4 (by decide))
        show M2.2 4 _ = _
        rw [this]; exact esy d d0 d1
      have hX2 : isX n w M2 := hX.of ((hfc.1 5 (by decide)).trans (hf1.1 5 (by decide))) ((hfc.2 11 (by decide)).trans (hf1.2 11 (by decide)))
      have hc2 : CHT G n w M2 := hc.of ((hfc.2 12 (by decide)).trans (hf1.2 12 (by decide)))
      have ed : ((d.toNat : Nat) : Int) = d := by omega
      have ere : aU_reached M2 d.toNat = aU_reached M1 d.toNat := congrFun e18 _
      obtain ⟨hB, hBb⟩ := hre d d0 d1
      have ed1 : (d + 1).toNat = d.toNat + 1 := by omega
      refine b40_85 ⟨fun g => absurd g (by omega), fun _ => g_m4 ⟨hr.1, by omega⟩ ⟨d0, by omega⟩ ⟨⟨d0, by omega⟩, ?_⟩⟩
      rw [esy2, ere]
      refine g_m39 hG hT hD hX2 hc2 hs.2.1 hsy hB hW (fun hx6 b e b0 e0 h1 h2 h3 => ?_) (fun v M3 hs3 hv hvb hub => ⟨⟨by omega, by omega⟩, ih (v, M3) ⟨by omega, hs.trans hs3, ?_, hv, fun b b0 hb => ?_, fun b b0 hp hsf => ?_, fun d' p q a1 a2 a3 a4 a5 a6 => ?_⟩⟩)
      · refine hu.kid ((kid_iff hG hT hD).mpr ⟨r, d.toNat, hr, hl, by omega, by rw [ed]; omega, by rw [ed], (hBb b b0).mp h1, h3, ?_⟩)
        have := hw1 e e0 h2
        rw [ed1] at this
        exact this
      · exact (hs3.1.2 18 (by decide)).trans e18
      · obtain ⟨b1, b2, e, e0, e1, e2⟩ := (hvb b b0).mp hb
        rw [show (d + (-1) + 1).toNat = d.toNat by omega, show (gz G r).toNat - d.toNat = ((gz G r).toNat - (d.toNat + 1)) + 1 by omega]
        refine ⟨e, ?_, ?_⟩
        · rw [show (((gz G r).toNat - ((gz G r).toNat - (d.toNat + 1) + 1) : Nat) : Int) = d by omega]
          exact e2
        · have := hw1 e e0 e1
          rw [ed1] at this
          exact this
      · dsimp only
        rw [show (d + (-1) + 1).toNat = d.toNat by omega] at hp hsf
        rw [show (gz G r).toNat - d.toNat = ((gz G r).toNat - (d.toNat + 1)) + 1 by omega] at hsf
        obtain ⟨e, h1, h2⟩ := hsf
        rw [show (((gz G r).toNat - ((gz G r).toNat - (d.toNat + 1) + 1) : Nat) : Int) = d by omega] at h1
        have hr1 := h1.rng hG hT
        refine (hvb b b0).mpr ⟨by omega, (hBb b b0).mpr hp, e, by omega, hw2 e (by omega) ?_ ?_, h1⟩
        · rw [ed1]
          exact ⟨b, hp, by rw [ed]; exact h1⟩
        · rw [ed1]; exact h2
      · dsimp only
        by_cases e2 : (d' : Int) = d
        · have e3 : d' = d.toNat := by omega
          subst e3
          rw [ed] at a3 a5 ⊢
          have hr1 := a5.rng hG hT
          refine hub (by omega) p q (by omega) (by omega) ((hBb p (by omega)).mpr a4) (hw2 q (by omega) ?_ ?_) a5
          · rw [ed1]
            exact ⟨p, a4, by rw [ed]; exact a5⟩
          · rw [ed1]; exact a6
        · exact hs3.2.2.1 _ _ _ (hk d' p q (by omega) a2 a3 a4 a5 a6)
    · rintro ⟨W, M2⟩ ⟨-, hs, e18, hW, hw1, hw2, hk⟩
      dsimp only at hs hk ⊢
      refine b40_85 ⟨fun _ => h M2 ⟨(hf1.mono (by decide) (by decide)).trans (hs.1.mono (by decide) (by decide)), hs.2.1, fun m' i' j' hb => hs.2.2.1 _ _ _ ?_, ?_, fun q q0 q1 => ?_⟩ (fun d p q a1 a2 a3 a4 a5 => hk d p q (by omega) a1 a2 a3 a4 a5), fun g => absurd (by omega) g⟩
      · unfold ub at hb ⊢
        simp only [aU_ends] at hb ⊢
        rw [hf1.2 16 (by decide)]
        exact hb
      · have := hs.2.2.2.1
        have e6 : sU_count M1 = sU_count M := hf1.1 6 (by decide)
        omega
      · have e6 : sU_count M1 = sU_count M := hf1.1 6 (by decide)
        exact (hs.2.2.2.2 q q0 (by omega)).trans (congrFun (hf1.2 17 (by decide)) _)
    · dsimp only at hb ⊢
      rw [bt_sl, decide_eq_true_iff] at hb
      rw [show (gz G r).toNat - (gz G r - 1 + 1).toNat = 0 by omega]
      show e = j
      omega
    · dsimp only
      rw [show (gz G r).toNat - (gz G r - 1 + 1).toNat = 0 by omega] at hs
      have hs' : e = j := hs
      rw [bt_sl, decide_eq_true_iff, hs']
  -- the way up
  refine lp (σ := ev_M) (n := if gz G r = 0 then 0 else gz G r - 1) (c := fun d M1 => c40_12 r j d M1 Q) (P := fun d M1 => fr [] [18] M M1 ∧ ∀ d' : Int, 0 ≤ d' → d' ≤ d → (0 ≤ aU_reached M1 d'.toNat ∧ aU_reached M1 d'.toNat < 2048) ∧ ∀ p : Int, 0 ≤ p → (bt (aU_reached M1 d'.toNat) p.toNat = true ↔ pth G (der G n w) r d'.toNat i p)) ?_ ?_ (by omega) (by split <;> omega) ⟨hf0, fun d' a1 a2 => ?_⟩
  · rintro d M1 d0 d1 ⟨hf1, hre⟩ ih
    have hz1 : d < gz G r - 1 := by
      split at d1 <;> omega
    have esz1 : aG_size M1 r.toNat = gz G r := (congrFun (hf1.2 3 (by decide)) _).trans esz
    have hsy := hg.2.2 d d0 (by omega)
    have esy2 : gR M1 r d = gs G r d := by
      show M1.2 4 _ = _
      rw [hf1.2 4 (by decide)]; exact esy d d0 (by omega)
    have hX1 : isX n w M1 := hX.of (hf1.1 5 (by decide)) (hf1.2 11 (by decide))
    have hc1 : CHT G n w M1 := hc.of (hf1.2 12 (by decide))
    obtain ⟨hB, hBb⟩ := hre d d0 (Int.le_refl _)
    have ed : ((d.toNat : Nat) : Int) = d := by omega
    refine b40_12 ⟨⟨hr.1, by omega⟩, ?_⟩
    rw [esz1]
    refine ⟨⟨by omega, by omega⟩, fun g => absurd g (by omega), fun _ => ⟨⟨by omega, by omega⟩, g_m4 ⟨hr.1, by omega⟩ ⟨d0, by omega⟩ ⟨⟨d0, by omega⟩, ?_⟩⟩⟩
    rw [esy2]
    refine g_m25 hT hX1 hc1.1 hsy hB (fun v hv hvb => ⟨⟨by omega, by omega⟩, ⟨by omega, by omega⟩, ih _ ⟨hf1.sA (by decide), fun d' a1 a2 => ?_⟩⟩)
    by_cases e : d' = d + 1
    · subst e
      have er : aU_reached (ev_sA M1 18 (d + 1).toNat v) (d + 1).toNat = v := sA_same
      rw [er]
      refine ⟨hv, fun p p0 => ?_⟩
      rw [hvb p p0, show (d + 1).toNat = d.toNat + 1 by omega]
      constructor
      · rintro ⟨q, q0, q1, q2, q3⟩
        exact ⟨q, (hBb q q0).mp q2, by rw [ed]; exact (hc1.2 _ _ _ hsy.1 hsy.2).mp q3⟩
      · rintro ⟨q, h1, h2⟩
        rw [ed] at h2
        have := h2.rng hG hT
        exact ⟨q, by omega, by omega, (hBb q (by omega)).mpr h1, (hc1.2 _ _ _ hsy.1 hsy.2).mpr h2⟩
    · have er : aU_reached (ev_sA M1 18 (d + 1).toNat v) d'.toNat = aU_reached M1 d'.toNat := sA_ne (by omega)
      rw [er]
      exact hre d' a1 (by omega)
  · rintro M1 ⟨hf1, hre⟩
    have esz1 : aG_size M1 r.toNat = gz G r := (congrFun (hf1.2 3 (by decide)) _).trans esz
    have hle : gz G r - 1 ≤ (if gz G r = 0 then 0 else gz G r - 1) := by split <;> omega
    refine b40_12 ⟨⟨hr.1, by omega⟩, ?_⟩
    rw [esz1]
    refine ⟨⟨by omega, by omega⟩, fun _ => ⟨⟨by omega, by omega⟩, sl_i2 ⟨by omega, by omega⟩, ⟨hr.1, by omega⟩, ⟨by omega, by omega⟩, down M1 hf1 (fun d d0 d1 => hre d d0 (by omega))⟩, fun g => absurd hle g⟩
  · have e : d' = 0 := by omega
    subst e
    have er : aU_reached (ev_sA M 18 0 (tm_sl 1 i)) (0 : Int).toNat = tm_sl 1 i := sA_same
    rw [er]
    refine ⟨sl_rng (n := 11) (by omega), fun p p0 => ?_⟩
    rw [bt_sl, decide_eq_true_iff]
    show _ ↔ i = p
    omega
end CV
