/-! The questions about trees -/
section QT1
variable {G : gT} {n c : Int} {w go : Int → Int} {T : Int → Int → Int → Bool} {v κ : Int → Int → Int → Nat} {ρ : Int → Int → Int → Int} {M M1 M2 : ev_M}
theorem kuniq (hG : okG G) (hT : okT n w) (hD : isD G n w T) (hV : VF G n T v ρ) (hE : EQN G n T κ) (hκ : ∀ m i j : Int, κ m i j ≠ 0 → usd G n T m i j) : ∀ (N : Nat) (m i j : Int), ρ m i j < N → usd G n T m i j → κ m i j = v m i j := by
  obtain ⟨hcv, hon, hvu, heq, hρ⟩ := hV
  intro N
  induction N with
  | zero =>
    intro m i j hN hu
    have hr := hu.rng hG hT hD
    have := (hρ m i j hu).1
    omega
  | succ N ih =>
    intro m i j hN hu
    have hb := hρ m i j hu
    rw [hE m i j hu, heq m i j hu, wt_congr (κ := κ) (κ' := v) hG (cv_onT (fun x p e hne => ((hκ x p e hne).rng hG hT hD).2.2)) (by rw [hcv]; exact hon) (fun x p e hk => ih x p e (by have := hb.2 x p e hk; omega) (hu.kid hk)), hcv]
theorem VF.rnk (hG : okG G) (hT : okT n w) (hD : isD G n w T) (hV : VF G n T v ρ) : RNK G n T := by
  refine ⟨fun m i j => (ρ m i j).toNat, fun m i j x p e hu hk => ?_⟩
  have h1 := hV.2.2.2.2 m i j hu
  have h2 := h1.2 x p e hk
  have h3 := (hV.2.2.2.2 x p e (hu.kid hk)).1
  have h4 := (hu.kid hk).rng hG hT hD
  show (ρ x p e).toNat < (ρ m i j).toNat
  omega
/-- both forests agree -/
theorem both (hG : okG G) (hT : okT n w) (hD : isD G n w T) (hF : FOR G n T M1) (hK : CNM G n T M2) : (sT_endless M1 = 1 ∧ sM_endless M2 = 1) ∨ (sT_endless M1 = 0 ∧ sM_endless M2 = 0 ∧ ∃ ρ : Int → Int → Int → Int, FI G n T (usd G n T) ρ M1 ∧ mV G n T (vC M1) M2 ∧ ((vC M1 0 0 n : Nat) : Int) = aM_counts M2 n.toNat) := by
  have hn := hT.1
  rcases hF with ⟨e1, hE⟩ | ⟨e0, ρ, hI⟩
  · rcases hK.2.2 with ⟨f1, -⟩ | ⟨-, ⟨hR, -⟩, -⟩
    · exact Or.inl ⟨e1, f1⟩
    · exact absurd (hR.notEND hE) id
  · have hV := hI.VF hG hT hD
    rcases hK.2.2 with ⟨-, hE⟩ | ⟨f0, ⟨-, hQ⟩, hd⟩
    · exact absurd ((hV.rnk hG hT hD).notEND hE) id
    · have hu := fun m i j hu => kuniq hG hT hD hV hQ hK.2.1 ((ρ m i j).toNat + 1) m i j (by omega) hu
      refine Or.inr ⟨e0, f0, ρ, hI, ⟨hK.1.1, hK.1.2, hK.2.1, fun m i j h => ⟨hu m i j h, hd m i j h⟩⟩, ?_⟩
      have hc := hK.1.1 n.toNat (by omega)
      have ek : kM M2 0 0 n = (aM_counts M2 n.toNat).toNat := by
        rw [dN_kM (by omega) (by omega) (by omega), show (121 * 0 + 11 * 0 + n).toNat = n.toNat by omega]
      by_cases h0 : usd G n T 0 0 n
      · have := hu 0 0 n h0
        omega
      · have a1 : vC M1 0 0 n = 0 := Decidable.byContradiction (fun hne => h0 (hI.2.2.1 0 0 n (by omega) hne))
        have a2 : kM M2 0 0 n = 0 := Decidable.byContradiction (fun hne => h0 (hK.2.1 0 0 n hne))
        omega
theorem g_m45 {Q : Int → ev_M → Prop} (hT : okT n w) (hX : isX n w M) (hR : tR' M) (h : Q ((vC M 0 0 n : Nat) : Int) M) : m45 M Q := by
  have hn := hT.1
  refine b45 ?_
  rw [hX.1]
  refine ⟨⟨hn.1, by omega⟩, ?_⟩
  have := vC_at hR (x := 0) (p := 0) (e := n) (by omega) (by omega) (by omega)
  rw [show (0 * 11 + 0) * 11 + n = n by omega] at this
  rw [this]
  exact h
theorem st_trees (h : INV M) : m83 M (fun w' M1 => m134 M1 (fun w'' M2 => w' = w'' ∧ INV M2)) := by
  obtain ⟨G, n, w, T, c, go, hA, hT, hD, hR, hC, hM⟩ := h
  have hG := hA.1
  have hn := hT.1
  refine b83 (g_m80 hG hT hD hC (fun M1 f1 c1 ch1 u1 fo1 => ?_))
  have f1' : fr cS cA M M1 := f1.mono (by decide) (by decide)
  have mod : ∀ v : Int, (∀ M2 : ev_M, CNM G n T M2 → (sM_endless M2 = 1 ∧ v = -1) ∨ (sM_endless M2 = 0 ∧ v = aM_counts M2 n.toNat)) → m134 M1 (fun w'' M2 => v = w'' ∧ INV M2) := by
    intro v hv
    refine b134 (g_m121 hG hT hD hR (MDL_byC hM f1') (fun M2 f2 m2 _ kn => ?_))
    have hI := INV.mk hA hT hD hR f1' c1 f2 m2
    have hcr := kn.2.2.2.1.1.1 n.toNat (by omega)
    rw [m2.2.1.1]
    rcases hv M2 kn.2.2.2.1 with ⟨e, ev⟩ | ⟨e, ev⟩
    · exact ⟨fun g => by omega, fun _ => b134_25 ⟨ev, hI⟩⟩
    · exact ⟨fun _ => ⟨⟨hn.1, by omega⟩, ⟨by omega, by omega⟩, b134_25 ⟨ev, hI⟩⟩, fun g => absurd e g⟩
  refine ⟨fun e0 => ?_, fun e1 => b83_25 (mod (-1) (fun M2 hK => ?_))⟩
  · have hI : ∃ ρ, FI G n T (usd G n T) ρ M1 := by
      rcases fo1 with ⟨e1, -⟩ | ⟨-, h2⟩
      · omega
      · exact h2
    obtain ⟨ρ, hI⟩ := hI
    refine g_m45 hT c1.2.1 hI.1 (b83_25 (mod _ (fun M2 hK => ?_)))
    rcases both hG hT hD fo1 hK with ⟨e1, -⟩ | ⟨-, f0, ρ2, -, -, ec⟩
    · omega
    · exact Or.inr ⟨f0, ec⟩
  · rcases both hG hT hD fo1 hK with ⟨-, f1⟩ | ⟨e0, -⟩
    · exact Or.inl ⟨f1, rfl⟩
    · exact absurd e0 e1
/-- the model's word on a tree number -/
theorem g_m138 {k : Int} {Q : Int → ev_M → Prop} (hG : okG G) (hT : okT n w) (hD : isD G n w T) (hR : goR c go) (hM : MDL G n w T c go M) (hfo : FOR G n T M1)
    (h1 : ∀ M' : ev_M, fr mS mA M M' → MDL G n w T c go M' → KN G n w T go M' → sT_endless M1 = 1 → Q 1 M')
    (h2 : ∀ M' : ev_M, fr mS mA M M' → MDL G n w T c go M' → KN G n w T go M' → sT_endless M1 = 0 → ¬ (0 ≤ k ∧ k < ((vC M1 0 0 n : Nat) : Int)) → Q 2 M')
    (h0 : ∀ (M' : ev_M) (ρ : Int → Int → Int → Int), fr mS mA M M' → MDL G n w T c go M' → KN G n w T go M' → sT_endless M1 = 0 → FI G n T (usd G n T) ρ M1 → mV G n T (vC M1) M' → 0 ≤ k ∧ k < ((vC M1 0 0 n : Nat) : Int) → Q 0 M') : m138 k M Q := by
  have hn := hT.1
  refine b138 (g_m121 hG hT hD hR hM (fun M2 f2 m2 _ kn => ?_))
  rw [m2.2.1.1]
  rcases both hG hT hD hfo kn.2.2.2.1 with ⟨e1, f1⟩ | ⟨e0, f0, ρ, hI, hmV, ec⟩
  · exact ⟨fun g => by omega, fun _ => b138_39 (h1 M2 f2 m2 kn e1)⟩
  · have no : ¬ (0 ≤ k ∧ k < ((vC M1 0 0 n : Nat) : Int)) → c138_34 M2 Q := fun hno => b138_34 (b138_39 (h2 M2 f2 m2 kn e0 hno))
    refine ⟨fun _ => ⟨fun hk => no (by omega), fun hk => ⟨⟨hn.1, by omega⟩, fun hlt => b138_39 (h0 M2 ρ f2 m2 kn e0 hI hmV ⟨by omega, by omega⟩), fun hge => no (by omega)⟩⟩, fun g => absurd f0 g⟩
theorem INV.mk2 {M3 : ev_M} (hA : AUT G M) (hT : okT n w) (hD : isD G n w T) (hR : goR c go) (f1 : fr cS (46 :: cA) M M1) (c1 : CLS G n w T c go M1) (f2 : fr mS mA M1 M3) (m2 : MDL G n w T c go M3) : INV M3 :=
  ⟨G, n, w, T, c, go, (hA.fr f1 (by decide) (by decide)).fr f2 (by decide) (by decide), hT, hD, hR, c1.fr f2 (by decide) (by decide), m2⟩
end QT1
