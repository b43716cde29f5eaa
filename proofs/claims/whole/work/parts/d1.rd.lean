/-! Both sides, ready to answer -/
/-- what the model knows -/
def KN (G : gT) (n : Int) (w : Int → Int) (T : Int → Int → Int → Bool) (go : Int → Int) (M : ev_M) : Prop := PAR G n w M ∧ EMP G M ∧ USE G n T M ∧ CNM G n T M ∧ FRM G n w go M
/-- the class's side -/
def CLS (G : gT) (n : Int) (w : Int → Int) (T : Int → Int → Int → Bool) (c : Int) (go : Int → Int) (M : ev_M) : Prop := isC G M ∧ isX n w M ∧ isG c go M ∧ fl0 M ∧ (M.1 0 = 0 ∨ (M.1 0 = 1 ∧ CHT G n w M)) ∧ (M.1 1 = 0 ∨ (M.1 1 = 1 ∧ FRC G n w go M)) ∧ (M.1 2 = 0 ∨ (M.1 2 = 1 ∧ CHT G n w M ∧ UU G n T M ∧ FOR G n T M))
/-- the model's side -/
def MDL (G : gT) (n : Int) (w : Int → Int) (T : Int → Int → Int → Bool) (c : Int) (go : Int → Int) (M : ev_M) : Prop := isM G M ∧ isY n w M ∧ isW c go M ∧ (M.1 16 = 0 ∨ (M.1 16 = 1 ∧ KN G n w T go M))
abbrev cS : List Nat := [0, 1, 2, 6, 7, 8, 9]
abbrev cA : List Nat := [12, 14, 16, 17, 18, 19, 21, 22, 23, 24, 26, 27, 28, 29]
abbrev mS : List Nat := [10, 16, 17, 18, 19, 20, 21, 22, 23, 24, 25]
abbrev mA : List Nat := [38, 39, 40, 41, 42, 43, 44, 45]
section RD
variable {G : gT} {n c : Int} {w go : Int → Int} {T : Int → Int → Int → Bool} {M M' : ev_M}
theorem UU.of (h : UU G n T M) (e : M'.2 16 = M.2 16) : UU G n T M' := by
  unfold UU ubR ub at h ⊢
  simp only [aU_ends] at h ⊢
  rw [e]; exact h
theorem FOR.of (h : FOR G n T M) (e0 : M'.1 7 = M.1 7) (e1 : M'.2 21 = M.2 21) (e2 : M'.2 22 = M.2 22) : FOR G n T M' := by
  unfold FOR at h ⊢
  simp only [sT_endless] at h ⊢
  rw [e0]
  rcases h with h | ⟨h1, ρ, h2⟩
  · exact Or.inl h
  · exact Or.inr ⟨h1, ρ, h2.mem e1 e2⟩
theorem isG.of (h : isG c go M) (e0 : M'.1 4 = M.1 4) (e1 : M'.2 8 = M.2 8) : isG c go M' := by
  unfold isG at h ⊢
  simp only [sA_count, aA_goal] at h ⊢
  rw [e0, e1]; exact h
theorem fl0.of (h : fl0 M) (e : M'.2 22 = M.2 22) : fl0 M' := by
  intro k a1 a2
  show M'.2 22 k = 0
  rw [e]; exact h k a1 a2
theorem CLS.fr {S A : List Nat} (h : CLS G n w T c go M) (hf : fr S A M M') (hS : ∀ q ∈ [0, 1, 2, 3, 4, 5, 7], q ∉ S) (hA : ∀ q ∈ [2, 3, 4, 8, 11, 12, 14, 16, 21, 22], q ∉ A) : CLS G n w T c go M' := by
  have s0 := hf.1 0 (hS 0 (by decide))
  have s1 := hf.1 1 (hS 1 (by decide))
  have s2 := hf.1 2 (hS 2 (by decide))
  have s3 := hf.1 3 (hS 3 (by decide))
  have s4 := hf.1 4 (hS 4 (by decide))
  have s5 := hf.1 5 (hS 5 (by decide))
  have s7 := hf.1 7 (hS 7 (by decide))
  obtain ⟨h1, h2, h3, h4, h5, h6, h7⟩ := h
  refine ⟨h1.of s3 (hf.2 2 (hA 2 (by decide))) (hf.2 3 (hA 3 (by decide))) (hf.2 4 (hA 4 (by decide))), h2.of s5 (hf.2 11 (hA 11 (by decide))), h3.of s4 (hf.2 8 (hA 8 (by decide))), h4.of (hf.2 22 (hA 22 (by decide))), ?_, ?_, ?_⟩
  · rw [s0]; exact h5.imp id (fun h => ⟨h.1, h.2.of (hf.2 12 (hA 12 (by decide)))⟩)
  · rw [s1]; exact h6.imp id (fun h => ⟨h.1, h.2.of (hf.2 14 (hA 14 (by decide)))⟩)
  · rw [s2]; exact h7.imp id (fun h => ⟨h.1, h.2.1.of (hf.2 12 (hA 12 (by decide))), h.2.2.1.of (hf.2 16 (hA 16 (by decide))), h.2.2.2.of s7 (hf.2 21 (hA 21 (by decide))) (hf.2 22 (hA 22 (by decide)))⟩)
theorem EMP.of (h : EMP G M) (e : M'.2 38 = M.2 38) : EMP G M' := by
  unfold EMP at h ⊢
  simp only [aM_empty] at h ⊢
  rw [e]; exact h
theorem CNM.of (h : CNM G n T M) (e0 : M'.1 17 = M.1 17) (e1 : M'.2 41 = M.2 41) (e2 : M'.2 42 = M.2 42) : CNM G n T M' := by
  have ek : kM M' = kM M := kM.of e2
  unfold CNM cR dR dn at h ⊢
  rw [ek]
  simp only [aM_counts, aM_done, sM_endless] at h ⊢
  rw [e0, e1, e2]; exact h
theorem MDL.fr {S A : List Nat} (h : MDL G n w T c go M) (hf : fr S A M M') (hS : ∀ q ∈ [11, 12, 13, 16, 17], q ∉ S) (hA : ∀ q ∈ [31, 32, 33, 34, 37, 38, 39, 40, 41, 42, 43], q ∉ A) : MDL G n w T c go M' := by
  obtain ⟨h1, h2, h3, h4⟩ := h
  refine ⟨h1.of (hf.1 11 (hS 11 (by decide))) (hf.2 31 (hA 31 (by decide))) (hf.2 32 (hA 32 (by decide))) (hf.2 33 (hA 33 (by decide))), h2.of (hf.1 12 (hS 12 (by decide))) (hf.2 34 (hA 34 (by decide))), h3.of (hf.1 13 (hS 13 (by decide))) (hf.2 37 (hA 37 (by decide))), ?_⟩
  rw [hf.1 16 (hS 16 (by decide))]
  exact h4.imp id (fun h => ⟨h.1, h.2.1.of (hf.2 39 (hA 39 (by decide))), h.2.2.1.of (hf.2 38 (hA 38 (by decide))), h.2.2.2.1.of (hf.2 40 (hA 40 (by decide))), h.2.2.2.2.1.of (hf.1 17 (hS 17 (by decide))) (hf.2 41 (hA 41 (by decide))) (hf.2 42 (hA 42 (by decide))), h.2.2.2.2.2.of (hf.2 43 (hA 43 (by decide)))⟩)
/-- the model looks -/
theorem g_m121 {Q : ev_M → Prop} (hG : okG G) (hT : okT n w) (hD : isD G n w T) (hR : goR c go) (hM : MDL G n w T c go M) (h : ∀ M' : ev_M, fr mS mA M M' → MDL G n w T c go M' → M'.1 10 = 0 → KN G n w T go M' → Q M') : m121 M Q := by
  obtain ⟨h1, h2, h3, h4⟩ := hM
  refine b121 ⟨fun hk => ?_, fun hk => ?_⟩
  · refine g_m103 hG hT (h1.of rfl rfl rfl rfl) (h2.of rfl rfl) (fun M1 f1 p1 => ?_)
    have g1 : fr mS mA M M1 := ((fr.refl.sS (by decide)).sS (by decide)).trans (f1.mono (by decide) (by decide))
    have i1 : isM G M1 := h1.of (g1.1 11 (by decide)) (g1.2 31 (by decide)) (g1.2 32 (by decide)) (g1.2 33 (by decide))
    refine g_m105 hG i1 (fun M2 f2 p2 => ?_)
    have g2 := g1.trans (f2.mono (by decide) (by decide))
    have i2 : isM G M2 := h1.of (g2.1 11 (by decide)) (g2.2 31 (by decide)) (g2.2 32 (by decide)) (g2.2 33 (by decide))
    have y2 : isY n w M2 := h2.of (g2.1 12 (by decide)) (g2.2 34 (by decide))
    refine g_m115 hG hT i2 y2 (p1.of (f2.2 39 (by decide))) hD (fun M3 f3 p3 z3 => ?_)
    have g3 := g2.trans (f3.mono (by decide) (by decide))
    have i3 : isM G M3 := h1.of (g3.1 11 (by decide)) (g3.2 31 (by decide)) (g3.2 32 (by decide)) (g3.2 33 (by decide))
    have par3 : PAR G n w M3 := p1.of ((f3.2 39 (by decide)).trans (f2.2 39 (by decide)))
    refine g_m118 hG hT i3 par3 hD p3 z3 (fun M4 f4 p4 => ?_)
    have g4 := g3.trans (f4.mono (by decide) (by decide))
    have y4 : isY n w M4 := h2.of (g4.1 12 (by decide)) (g4.2 34 (by decide))
    have w4 : isW c go M4 := h3.of (g4.1 13 (by decide)) (g4.2 37 (by decide))
    have par4 : PAR G n w M4 := par3.of (f4.2 39 (by decide))
    refine g_m120 hG hT hR y4 par4 w4 (fun M5 f5 p5 => ?_)
    have g5 := g4.trans (f5.mono (by decide) (by decide))
    have kn : KN G n w T go M5 := ⟨par4.of (f5.2 39 (by decide)), p2.of ((f5.2 38 (by decide)).trans ((f4.2 38 (by decide)).trans (f3.2 38 (by decide)))), p3.of ((f5.2 40 (by decide)).trans (f4.2 40 (by decide))), p4.of (f5.1 17 (by decide)) (f5.2 41 (by decide)) (f5.2 42 (by decide)), p5⟩
    have s16 : M5.1 16 = 1 := (f5.1 16 (by decide)).trans ((f4.1 16 (by decide)).trans ((f3.1 16 (by decide)).trans ((f2.1 16 (by decide)).trans (f1.1 16 (by decide)))))
    have s10 : M5.1 10 = 0 := (f5.1 10 (by decide)).trans ((f4.1 10 (by decide)).trans ((f3.1 10 (by decide)).trans ((f2.1 10 (by decide)).trans (f1.1 10 (by decide)))))
    exact h M5 g5 ⟨h1.of (g5.1 11 (by decide)) (g5.2 31 (by decide)) (g5.2 32 (by decide)) (g5.2 33 (by decide)), h2.of (g5.1 12 (by decide)) (g5.2 34 (by decide)), h3.of (g5.1 13 (by decide)) (g5.2 37 (by decide)), Or.inr ⟨s16, kn⟩⟩ s10 kn
  · rcases h4 with e | ⟨e, kn⟩
    · exact absurd e hk
    · have kn' : KN G n w T go (ev_sS M 10 0) := ⟨kn.1.of rfl, kn.2.1.of rfl, kn.2.2.1.of rfl, kn.2.2.2.1.of rfl rfl rfl, kn.2.2.2.2.of rfl⟩
      exact h _ (fr.refl.sS (by decide)) ⟨h1.of rfl rfl rfl rfl, h2.of rfl rfl, h3.of rfl rfl, Or.inr ⟨e, kn'⟩⟩ rfl kn'
/-- the class's chart, frontier, forest made ready -/
theorem g_m68 {Q : ev_M → Prop} (hG : okG G) (hT : okT n w) (hC : CLS G n w T c go M) (h : ∀ M' : ev_M, fr [0] [12] M M' → CLS G n w T c go M' → CHT G n w M' → Q M') : m68 M Q := by
  have hC' := hC
  obtain ⟨h1, h2, h3, h4, h5, h6, h7⟩ := hC
  refine b68 ⟨fun hne => b68_19 ?_, fun he => g_m28 hG hT h1 h2 (fun M1 f1 p1 => b68_19 ?_)⟩
  · rcases h5 with e | ⟨e, hc⟩
    · exact absurd e hne
    · exact h M fr.refl hC' hc
  · have hc : CHT G n w (ev_sS M1 0 1) := p1.of rfl
    refine h _ ((f1.mono (by decide) (by decide)).sS (by decide)) ⟨h1.of (f1.1 3 (by decide)) (f1.2 2 (by decide)) (f1.2 3 (by decide)) (f1.2 4 (by decide)), h2.of (f1.1 5 (by decide)) (f1.2 11 (by decide)), h3.of (f1.1 4 (by decide)) (f1.2 8 (by decide)), h4.of (f1.2 22 (by decide)), Or.inr ⟨rfl, hc⟩, ?_, ?_⟩ hc
    · have e1 : (ev_sS M1 0 1).1 1 = M.1 1 := f1.1 1 (by decide)
      rw [e1]
      exact h6.imp id (fun h => ⟨h.1, h.2.of (f1.2 14 (by decide))⟩)
    · have e1 : (ev_sS M1 0 1).1 2 = M.1 2 := f1.1 2 (by decide)
      rw [e1]
      exact h7.imp id (fun h => ⟨h.1, hc, h.2.2.1.of (f1.2 16 (by decide)), h.2.2.2.of (f1.1 7 (by decide)) (f1.2 21 (by decide)) (f1.2 22 (by decide))⟩)
theorem g_m75 {Q : ev_M → Prop} (hG : okG G) (hT : okT n w) (hR : goR c go) (hC : CLS G n w T c go M) (h : ∀ M' : ev_M, fr [0, 1] [12, 14] M M' → CLS G n w T c go M' → FRC G n w go M' → Q M') : m75 M Q := by
  refine b75 ⟨fun hne => b75_23 ?_, fun he => g_m68 hG hT hC (fun M1 f1 c1 ch1 => ?_)⟩
  · rcases hC.2.2.2.2.2.1 with e | ⟨e, hf⟩
    · exact absurd e hne
    · exact h M fr.refl hC hf
  · obtain ⟨h1, h2, h3, h4, h5, h6, h7⟩ := c1
    refine g_m32 hG hT hR h2 ch1 h3 (fun M2 f2 p2 => b75_23 ?_)
    have hf : FRC G n w go (ev_sS M2 1 1) := p2.of rfl
    refine h _ (((f1.mono (by decide) (by decide)).trans (f2.mono (by decide) (by decide))).sS (by decide)) ⟨h1.of (f2.1 3 (by decide)) (f2.2 2 (by decide)) (f2.2 3 (by decide)) (f2.2 4 (by decide)), h2.of (f2.1 5 (by decide)) (f2.2 11 (by decide)), h3.of (f2.1 4 (by decide)) (f2.2 8 (by decide)), h4.of (f2.2 22 (by decide)), ?_, Or.inr ⟨rfl, hf⟩, ?_⟩ hf
    · have e1 : (ev_sS M2 1 1).1 0 = M1.1 0 := f2.1 0 (by decide)
      rw [e1]
      exact h5.imp id (fun h => ⟨h.1, h.2.of (f2.2 12 (by decide))⟩)
    · have e1 : (ev_sS M2 1 1).1 2 = M1.1 2 := f2.1 2 (by decide)
      rw [e1]
      exact h7.imp id (fun h => ⟨h.1, h.2.1.of (f2.2 12 (by decide)), h.2.2.1.of (f2.2 16 (by decide)), h.2.2.2.of (f2.1 7 (by decide)) (f2.2 21 (by decide)) (f2.2 22 (by decide))⟩)
abbrev foS : List Nat := [0, 2, 6, 7]
abbrev foA : List Nat := [12, 16, 17, 18, 21, 22, 23, 24]
theorem g_m80 {Q : ev_M → Prop} (hG : okG G) (hT : okT n w) (hD : isD G n w T) (hC : CLS G n w T c go M) (h : ∀ M' : ev_M, fr foS foA M M' → CLS G n w T c go M' → CHT G n w M' → UU G n T M' → FOR G n T M' → Q M') : m80 M Q := by
  refine b80 ⟨fun hne => b80_30 ?_, fun he => g_m68 hG hT hC (fun M1 f1 c1 ch1 => ?_)⟩
  · rcases hC.2.2.2.2.2.2 with e | ⟨e, hf⟩
    · exact absurd e hne
    · exact h M fr.refl hC hf.1 hf.2.1 hf.2.2
  · obtain ⟨h1, h2, h3, h4, h5, h6, h7⟩ := c1
    refine g_m41 hG hT hD h1 h2 ch1 (fun M2 f2 p2 => ?_)
    have i2 : isC G M2 := h1.of (f2.1 3 (by decide)) (f2.2 2 (by decide)) (f2.2 3 (by decide)) (f2.2 4 (by decide))
    have x2 : isX n w M2 := h2.of (f2.1 5 (by decide)) (f2.2 11 (by decide))
    have ch2 : CHT G n w M2 := ch1.of (f2.2 12 (by decide))
    refine g_m53 hG hT hD i2 x2 ch2 p2 (h4.of (f2.2 22 (by decide))) (fun M3 f3 p3 z3 => b80_30 ?_)
    have g3 : fr [6, 7] [16, 17, 18, 21, 22, 23, 24] M1 M3 := (f2.mono (by decide) (by decide)).trans (f3.mono (by decide) (by decide))
    have ch3 : CHT G n w (ev_sS M3 2 1) := ch1.of (g3.2 12 (by decide))
    have u3 : UU G n T (ev_sS M3 2 1) := p2.of (f3.2 16 (by decide))
    have fo3 : FOR G n T (ev_sS M3 2 1) := p3.of rfl rfl rfl
    refine h _ (((f1.mono (by decide) (by decide)).trans (g3.mono (by decide) (by decide))).sS (by decide)) ⟨h1.of (g3.1 3 (by decide)) (g3.2 2 (by decide)) (g3.2 3 (by decide)) (g3.2 4 (by decide)), h2.of (g3.1 5 (by decide)) (g3.2 11 (by decide)), h3.of (g3.1 4 (by decide)) (g3.2 8 (by decide)), z3.of rfl, ?_, ?_, Or.inr ⟨rfl, ch3, u3, fo3⟩⟩ ch3 u3 fo3
    · have e1 : (ev_sS M3 2 1).1 0 = M1.1 0 := g3.1 0 (by decide)
      rw [e1]
      exact h5.imp id (fun h => ⟨h.1, h.2.of (g3.2 12 (by decide))⟩)
    · have e1 : (ev_sS M3 2 1).1 1 = M1.1 1 := g3.1 1 (by decide)
      rw [e1]
      exact h6.imp id (fun h => ⟨h.1, h.2.of (g3.2 14 (by decide))⟩)
end RD
