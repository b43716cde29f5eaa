/-! The model: picking a family, pushing its parts -/
section WM2
variable {G : gT} {n : Int} {w : Int → Int} {T : Int → Int → Int → Bool} {v : Int → Int → Int → Nat} {ρ : Int → Int → Int → Int} {m i j r : Int} {k : Nat} {u : Nat → Int} {M M' : ev_M}
/-- the model's counts are v, and all nodes in use are done -/
def mV (G : gT) (n : Int) (T : Int → Int → Int → Bool) (v : Int → Int → Int → Nat) (M : ev_M) : Prop := cR M ∧ dR M ∧ (∀ m i j : Int, kM M m i j ≠ 0 → usd G n T m i j) ∧ (∀ m i j : Int, usd G n T m i j → kM M m i j = v m i j ∧ dn M m i j)
theorem mV.of (h : mV G n T v M) (e1 : M'.2 41 = M.2 41) (e2 : M'.2 42 = M.2 42) : mV G n T v M' := by
  have ek : kM M' = kM M := kM.of e2
  unfold mV cR dR dn at h ⊢
  rw [ek]
  simp only [aM_counts, aM_done] at h ⊢
  rw [e1, e2]
  exact h
theorem mV.at (hG : okG G) (hT : okT n w) (hD : isD G n w T) (h : mV G n T v M) (hu : usd G n T m i j) : aM_counts M (121 * m + 11 * i + j).toNat = ((v m i j : Nat) : Int) := by
  have hn := hT.1
  have hr := hu.rng hG hT hD
  have h1 := (h.2.2.2 m i j hu).1
  rw [dN_kM (by omega) (by omega) (by omega)] at h1
  have h2 := h.1 (121 * m + 11 * i + j).toNat (by omega)
  omega
/-- the tuple of cuts -/
theorem cur_cdu (hG : okG G) (hT : okT n w) (hD : isD G n w T) (hft : 0 ≤ i ∧ i ≤ j ∧ j ≤ 10) (hr : 0 ≤ r ∧ r < gn G) (hc : cuts G T r i j u) (hI : itR G m i j M) (h0 : 0 ≤ sM_rule M) (he : cur M = cdu G r j u) : sM_rule M = r ∧ sM_one M = (if 2 ≤ gz G r then u 1 else j) ∧ sM_two M = (if 3 ≤ gz G r then u 2 else j) ∧ sM_three M = (if 4 ≤ gz G r then u 3 else j) := by
  obtain ⟨hF, -⟩ := isF_of (m := gl G r) hG hT hD hr rfl hc
  have g1 := hF.1.rng hG hft
  have hv : vt G m i j (sM_rule M) (sM_one M) (sM_two M) (sM_three M) := by
    rcases hI.2.2.2 with e | e
    · omega
    · exact e
  have g2 := hv.rng hG hft
  clear hF hv
  have ec : cur M = (1331 * (sM_rule M) + 121 * (sM_one M) + 11 * (sM_two M) + (sM_three M)) := if_neg (by omega)
  unfold cdu at he
  rw [ec] at he
  omega
/-- a family, unseen by the tactics -/
def isFd (G : gT) (T : Int → Int → Int → Bool) (m f t r a b c : Int) : Prop := isF G T m f t r a b c
theorem isFd.F {f t a b c : Int} (h : isFd G T m f t r a b c) : isF G T m f t r a b c := h
theorem g_m135 {Q : Int → ev_M → Prop} {nd : Int} (hG : okG G) (hT : okT n w) (hD : isD G n w T) (hV : VF G n T v ρ) (hM : isM G M) (hP : PAR G n w M) (hmV : mV G n T v M) (hu : usd G n T m i j) (hnd : nd = 121 * m + 11 * i + j) (hkc : k < 1000000000) (hr : 0 ≤ r ∧ r < gn G) (hl : gl G r = m) (hc : cuts G T r i j u) (hS1 : sumN (wt G v m i j) (cdu G r j u).toNat ≤ k) (hS2 : k < sumN (wt G v m i j) (cdu G r j u).toNat + rkB G v r u (gz G r).toNat)
    (h : ∀ M' : ev_M, fr itS0 [] M M' → itR G m i j M' → 0 ≤ sM_rule M' → isF G T m i j (sM_rule M') (sM_one M') (sM_two M') (sM_three M') → cur M' = cdu G r j u → Q ((k - sumN (wt G v m i j) (cdu G r j u).toNat : Nat) : Int) M') : m135 nd (k : Int) M Q := by
  have hn := hT.1
  have hrg := hu.rng hG hT hD
  have hft : 0 ≤ i ∧ i ≤ j ∧ j ≤ 10 := by omega
  obtain ⟨hcv, hon, hvu, heq, hρ⟩ := hV
  have hw := wt_cdu (v := v) hG hT hD hft hr hl hc
  have hcr := cdu_rng hG hT hD hft hr hc
  -- the families from here on
  have key : ∀ (N : Nat) (M1 : ev_M), 18634 - cur M1 ≤ N → fr itS0 [] M M1 → itR G m i j M1 → 0 ≤ sM_rule M1 → isFd G T m i j (sM_rule M1) (sM_one M1) (sM_two M1) (sM_three M1) → sumN (wt G v m i j) (cur M1).toNat ≤ k → m116 M1 (fun w2 M2 => c135_15 ((k - sumN (wt G v m i j) (cur M1).toNat : Nat) : Int) w2 M2 Q) := by
    intro N
    induction N with
    | zero =>
      intro M1 hN hf1 hI hr0 hF hS
      have := hF.F.1.rng hG hft
      have ec : cur M1 = (1331 * (sM_rule M1) + 121 * (sM_one M1) + 11 * (sM_two M1) + (sM_three M1)) := if_neg (by omega)
      omega
    | succ N ih =>
      intro M1 hN hf1 hI hr0 hF hS
      have hM1 : isM G M1 := hM.of (hf1.1 11 (by decide)) (hf1.2 31 (by decide)) (hf1.2 32 (by decide)) (hf1.2 33 (by decide))
      have hP1 : PAR G n w M1 := hP.of (hf1.2 39 (by decide))
      have hmV1 : mV G n T v M1 := hmV.of (hf1.2 41 (by decide)) (hf1.2 42 (by decide))
      have hvr := hF.F.1.rng hG hft
      have ec : cur M1 = (1331 * (sM_rule M1) + 121 * (sM_one M1) + 11 * (sM_two M1) + (sM_three M1)) := if_neg (by omega)
      have hstep := wt_step (v := v) hG hft hF.F.1
      rw [← ec] at hstep
      have hkd : ∀ d : Int, 0 ≤ d → d < gz G (sM_rule M1) → gs G (sM_rule M1) d ≤ 5 → kid G T m i j (gs G (sM_rule M1) d) (pf i (sM_one M1) (sM_two M1) (sM_three M1) d) (pt (sM_one M1) (sM_two M1) (sM_three M1) j d) := fun d d0 d1 d2 => ⟨_, _, _, _, d, hF.F, d0, d1, d2, rfl, rfl, rfl⟩
      have epw : pw G (cv T (kM M1)) i j (sM_rule M1) (sM_one M1) (sM_two M1) (sM_three M1) = pw G v i j (sM_rule M1) (sM_one M1) (sM_two M1) (sM_three M1) := by
        rw [← pp_pw hG hF.F, ← pp_pw hG hF.F]
        refine pp_congr _ (fun d hd => ?_)
        by_cases h6 : gs G (sM_rule M1) (d : Int) < 6
        · have g := (hG.2 _ hF.F.1.1.1 hF.F.1.1.2).2.1
          have := hkd d (by omega) (by omega) (by omega)
          unfold cv
          rw [if_pos h6]
          exact (hmV1.2.2.2 _ _ _ (hu.kid this)).1
        · rw [← hcv]
          unfold cv
          rw [if_neg h6, if_neg h6]
      obtain ⟨B, hB⟩ : ∃ B : Nat, B = pw G v i j (sM_rule M1) (sM_one M1) (sM_two M1) (sM_three M1) := ⟨_, rfl⟩
      obtain ⟨A, hA⟩ : ∃ A : Nat, A = sumN (wt G v m i j) (cur M1).toNat := ⟨_, rfl⟩
      rw [← hA, ← hB] at hstep
      rw [← hA] at hS ⊢
      refine g_m116 hG hM1 hD hft hI hr0 hF.F hmV1.2.1 hmV1.1 (fun _ => ?_) (fun hex => ?_)
      · rw [epw, ← hB]
        have hwc : wt G v m i j (cur M1).toNat = B := by rw [ec, hB]; exact wt_at hG hft hF.F.1
        refine b135_15 ⟨fun hlt => ?_, fun hge => ?_⟩
        · have e1 : (cur M1).toNat = (cdu G r j u).toNat := pos_uniq (F := wt G v m i j) (k := k) (by omega) (by omega) (by omega) (by omega)
          have e2 : cur M1 = cdu G r j u := by omega
          have := h M1 hf1 hI hr0 hF.F e2
          rw [← e1, ← hA] at this
          exact this
        · have hBk : B ≤ k - A := by omega
          refine ⟨⟨by omega, by omega⟩, g_m111 hG hM1 hP1 hD hft hI (fun M3 hf3 hr3 hI3 hF3' hlt3 hmin3 => ?_) (fun M3 hf3 hall => ?_)⟩
          · have hF3 : isFd G T m i j (sM_rule M3) (sM_one M3) (sM_two M3) (sM_three M3) := hF3'
            clear hF3'
            have hsk := wt_skip (G := G) (v := v) (m := m) (f := i) (t := j) hon (k := cur M1 + 1) (k' := cur M3) (by omega) (by omega) (fun r a b d hF4 hle => hmin3 r a b d hF4 (by omega))
            have hS3 : sumN (wt G v m i j) (cur M3).toNat = A + B := by rw [hsk, hstep]
            have := ih M3 (by omega) (hf1.trans (hf3.mono (by decide) (by decide))) hI3 hr3 hF3 (by omega)
            rw [hS3] at this
            have e3 : ((k - A : Nat) : Int) - ((min B 1000000000 : Nat) : Int) = ((k - (A + B) : Nat) : Int) := by omega
            rw [e3]
            exact this
          · exfalso
            have hsk := wt_skip (G := G) (v := v) (m := m) (f := i) (t := j) hon (k := cur M1 + 1) (k' := 18634) (by omega) (by omega) (fun r a b d hF4 hle => by have := hall r a b d hF4; omega)
            have h1 : sumN (wt G v m i j) ((cdu G r j u).toNat + 1) ≤ sumN (wt G v m i j) 18634 := sumN_mono (by omega)
            have h2 : sumN (wt G v m i j) ((cdu G r j u).toNat + 1) = sumN (wt G v m i j) (cdu G r j u).toNat + wt G v m i j (cdu G r j u).toNat := rfl
            have h3 : sumN (wt G v m i j) ((18634 : Int).toNat) = A + B := by rw [hsk, hstep]
            have h4 : (18634 : Int).toNat = 18634 := rfl
            rw [h4] at h3
            omega
      · obtain ⟨d, d0, d1, d2, d3⟩ := hex
        exact absurd (hmV1.2.2.2 _ _ _ (hu.kid (hkd d d0 d1 d2))).2 d3
  refine b135 (g_m112 hG hM hP hD hrg.1.1 hft hnd (by omega) (fun M1 hf1 hr1 hI1 hF1' hmin => ?_) (fun M1 hf1 hno => ?_))
  · have hF1 : isFd G T m i j (sM_rule M1) (sM_one M1) (sM_two M1) (sM_three M1) := hF1'
    clear hF1'
    have hvr := hF1.F.1.rng hG hft
    have ec : cur M1 = (1331 * (sM_rule M1) + 121 * (sM_one M1) + 11 * (sM_two M1) + (sM_three M1)) := if_neg (by omega)
    have hsk := wt_skip (G := G) (v := v) (m := m) (f := i) (t := j) hon (k := 0) (k' := cur M1) (by omega) (by omega) (fun r a b d hF4 _ => hmin r a b d hF4)
    have hS0 : sumN (wt G v m i j) (cur M1).toNat = 0 := hsk
    have := key (18634 - cur M1).toNat M1 (by omega) hf1 hI1 hr1 hF1 (by omega)
    rw [hS0, Nat.sub_zero] at this
    exact this
  · obtain ⟨hF, -⟩ := isF_of hG hT hD hr hl hc
    exact absurd hF (hno _ _ _ _)
end WM2
