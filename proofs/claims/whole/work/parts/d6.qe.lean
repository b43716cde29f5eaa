/-! The other steps, and the start -/
section QE
variable {G : gT} {n c : Int} {w go : Int → Int} {T : Int → Int → Int → Bool} {M M1 M2 : ev_M}
theorem mkINV (hA : AUT G M) (hI : IT M) (hf : fl0 M) (h0 : M.1 0 = 0) (h1 : M.1 1 = 0) (h2 : M.1 2 = 0) (h16 : M.1 16 = 0) : INV M := by
  obtain ⟨i0, i1, i2, i3⟩ := hI
  refine ⟨G, sC_size M, fun p => aC_text M p.toNat, fun x i j => @decide (der G (sC_size M) (fun p => aC_text M p.toNat) x i j) (Classical.propDecidable _), sA_count M, fun j => aA_goal M j.toNat, hA, ⟨⟨i0, i1⟩, fun p p0 p1 => (i3 p.toNat (by omega)).2⟩, fun x i j => @decide_eq_true_iff _ (Classical.propDecidable _), hA.2.2.2.1.goR, ⟨hA.2.1, ⟨rfl, fun p p0 p1 => rfl⟩, ⟨rfl, fun j _ _ => rfl⟩, hf, Or.inl h0, Or.inl h1, Or.inl h2⟩, hA.2.2.1, ⟨i2, fun p p0 p1 => (i3 p.toNat (by omega)).1⟩, ⟨hA.2.2.2.2.2.1, fun j j0 j1 => hA.2.2.2.2.2.2.2 j j0 j1⟩, Or.inl h16⟩
theorem INV.toIT (h : INV M) : IT M := by
  obtain ⟨G, n, w, T, c, go, hA, hT, hD, hR, hC, hM⟩ := h
  have e1 := hC.2.1.1
  have e2 := hM.2.1.1
  have hn := hT.1
  refine ⟨by omega, by omega, by omega, fun j hj => ?_⟩
  have a1 := hC.2.1.2 (j : Int) (by omega) (by omega)
  have a2 := hM.2.1.2 (j : Int) (by omega) (by omega)
  have a3 := hT.2 (j : Int) (by omega) (by omega)
  rw [show ((j : Int)).toNat = j by omega] at a1 a2
  rw [a1, a2]
  exact ⟨rfl, a3⟩
theorem INV.fl (h : INV M) : fl0 M := by
  obtain ⟨G, n, w, T, c, go, hA, hT, hD, hR, hC, hM⟩ := h
  exact hC.2.2.2.1
theorem e_word {x : Int} (h : INV M) : m65 x M (fun w M1 => m98 x M1 (fun w' M2 => w = w' ∧ INV M2)) := by
  refine st_word h.toIT (fun _ => h) (fun hc => ?_)
  have hI := IT_word h.toIT hc
  have hl : fl0 (wordM x M) := fl0.of h.fl rfl
  obtain ⟨G, n, w, T, c, go, hA, hT, hD, hR, hC, hM⟩ := h
  have hf : fr [0, 1, 2, 5, 12, 16] [11, 34] M (wordM x M) := ((((((((fr.refl.sA (by decide)).sS (by decide)).sS (by decide)).sS (by decide)).sS (by decide)).sA (by decide)).sS (by decide)).sS (by decide))
  exact mkINV (hA.fr hf (by decide) (by decide)) hI hl rfl rfl rfl rfl
theorem e_erase (h : INV M) : m66 M (fun w M1 => m99 M1 (fun w' M2 => w = w' ∧ INV M2)) := by
  refine st_erase h.toIT ?_
  have hl : fl0 (eraseM M) := fl0.of h.fl rfl
  obtain ⟨G, n, w, T, c, go, hA, hT, hD, hR, hC, hM⟩ := h
  have hf : fr [0, 1, 2, 5, 12, 16] [11, 34] M (eraseM M) := ((((((fr.refl.sS (by decide)).sS (by decide)).sS (by decide)).sS (by decide)).sS (by decide)).sS (by decide))
  exact mkINV (hA.fr hf (by decide) (by decide)) IT_erase hl rfl rfl rfl rfl
theorem IT_fr {S A : List Nat} (h : IT M) (hf : fr S A M M2) (hS : ∀ q ∈ [5, 12], q ∉ S) (hA : ∀ q ∈ [11, 34], q ∉ A) : IT M2 := by
  have s5 := hf.1 5 (hS 5 (by decide))
  have s12 := hf.1 12 (hS 12 (by decide))
  have a11 := hf.2 11 (hA 11 (by decide))
  have a34 := hf.2 34 (hA 34 (by decide))
  unfold IT at h ⊢
  simp only [sC_size, sM_length, aC_text, aM_text] at h ⊢
  rw [s5, s12, a11, a34]
  exact h
theorem e_clear (h : INV M) : m67 M (fun w M1 => m100 M1 (fun w' M2 => w = w' ∧ INV M2)) := by
  have hl := h.fl
  obtain ⟨G, n, w, T, c, go, hA, hT, hD, hR, hC, hM⟩ := h
  refine st_clear (hA.2.2.1.1.trans hA.2.1.1.symm) (fun M2 hA2 hf e0 e1 e2 e5 e12 e16 => mkINV hA2 ?_ (hl.of (hf.2 22 (by decide))) e0 e1 e2 e16)
  have e5 : sC_size M2 = 0 := e5
  have e12 : sM_length M2 = 0 := e12
  exact ⟨by omega, by omega, by omega, fun j hj => absurd hj (by omega)⟩
theorem e_rule {x1 x2 x3 x4 x5 : Int} (h : INV M) : m64 x1 x2 x3 x4 x5 M (fun w M1 => m97 x1 x2 x3 x4 x5 M1 (fun w' M2 => w = w' ∧ INV M2)) := by
  have hl := h.fl
  have hI := h.toIT
  obtain ⟨G, n, w, T, c, go, hA, hT, hD, hR, hC, hM⟩ := h
  refine st_rule hA (fun M2 hf hA2 hk hg => ?_) (fun G' M2 hA2 hf e0 e1 e2 e16 => mkINV hA2 (IT_fr hI hf (by decide) (by decide)) (hl.of (hf.2 22 (by decide))) e0 e1 e2 e16)
  have hg1 : sA_count M2 = c := hg.1.trans hC.2.2.1.1
  have hg2 : ∀ j : Int, 0 ≤ j → j < 10 * c → aA_goal M2 j.toNat = go j := fun j j0 j1 => (hg.2 j j0 (by rw [hC.2.2.1.1]; exact j1)).trans (hC.2.2.1.2 j j0 j1)
  obtain ⟨h1, h2, h3, h4, h5, h6, h7⟩ := hC
  obtain ⟨k1, k2, k3, k4⟩ := hM
  refine ⟨G, n, w, T, c, go, hA2, hT, hD, hR, ⟨hA2.2.1, h2.of (hf.1 5 (by decide)) (hf.2 11 (by decide)), ⟨hg1, hg2⟩, h4.of (hf.2 22 (by decide)), ?_, ?_, ?_⟩, hA2.2.2.1, k2.of (hf.1 12 (by decide)) (hf.2 34 (by decide)), ⟨hA2.2.2.2.2.2.1.trans hg1, fun j j0 j1 => (hA2.2.2.2.2.2.2.2 j j0 (by rw [hg1]; exact j1)).trans (hg2 j j0 j1)⟩, ?_⟩
  · rw [hf.1 0 (by decide)]; exact h5.imp id (fun h => ⟨h.1, h.2.of (hf.2 12 (by decide))⟩)
  · rw [hf.1 1 (by decide)]; exact h6.imp id (fun h => ⟨h.1, h.2.of (hf.2 14 (by decide))⟩)
  · rw [hf.1 2 (by decide)]; exact h7.imp id (fun h => ⟨h.1, h.2.1.of (hf.2 12 (by decide)), h.2.2.1.of (hf.2 16 (by decide)), h.2.2.2.of (hf.1 7 (by decide)) (hf.2 21 (by decide)) (hf.2 22 (by decide))⟩)
  · rcases hk with e | e
    · have e : M2.1 16 = M.1 16 := e
      rw [e]
      exact k4.imp id (fun h => ⟨h.1, h.2.1.of (hf.2 39 (by decide)), h.2.2.1.of (hf.2 38 (by decide)), h.2.2.2.1.of (hf.2 40 (by decide)), h.2.2.2.2.1.of (hf.1 17 (by decide)) (hf.2 41 (by decide)) (hf.2 42 (by decide)), h.2.2.2.2.2.of (hf.2 43 (by decide))⟩)
    · exact Or.inl e
theorem INV.s10 (h : INV M) : INV (ev_sS M 10 0) := by
  obtain ⟨G, n, w, T, c, go, hA, hT, hD, hR, hC, hM⟩ := h
  have hf : fr [10] [] M (ev_sS M 10 0) := fr.refl.sS (by decide)
  exact ⟨G, n, w, T, c, go, hA.fr hf (by decide) (by decide), hT, hD, hR, hC.fr hf (by decide) (by decide), hM.fr hf (by decide) (by decide)⟩
theorem INV.toIA (h : INV M) : IA M := by
  obtain ⟨G, n, w, T, c, go, hA, hT, hD, hR, hC, hM⟩ := h
  exact hA.IA
theorem e_states (h : INV M) : m70 M (fun w M1 => m123 M1 (fun w' M2 => w = w' ∧ INV M2)) := st_states h.toIA h.s10
theorem e_leads {x1 x2 : Int} (h : INV M) : m72 x1 x2 M (fun w M1 => m125 x1 x2 M1 (fun w' M2 => w = w' ∧ INV M2)) := st_leads h.toIA h.s10
theorem e_start : m19 M0 (fun _ M1 => m91 (mrg M1) (fun _ M2 => INV M2)) := by
  refine g_m19 okG_Z (isC_Z rfl) (fun N hfN hEN hwN => ?_) (fun N _ hF => absurd (auE_Z.notF hF) id)
  refine g_m91 okG_Z (isM_Z rfl) hEN (fun M2 hf2 hk2 hs2 hr2 hw2 => ?_)
  have hA : AUT gZ M2 := AUT.mk (N := N) okG_Z (isC_Z ((hf2.1 3 (by decide)).trans (hfN.1 3 (by decide)))) (isM_Z (hf2.1 11 (by decide))) (hf2.1 4 (by decide)) (hf2.2 6 (by decide)) (hf2.2 7 (by decide)) (hf2.2 8 (by decide)) hEN hwN hs2 hr2 hw2
  have e5 : sC_size M2 = 0 := (hf2.1 5 (by decide)).trans (hfN.1 5 (by decide))
  have e12 : sM_length M2 = 0 := hf2.1 12 (by decide)
  refine mkINV hA ⟨by omega, by omega, by omega, fun j hj => absurd hj (by omega)⟩ (fun k k0 k1 => ?_) ((hf2.1 0 (by decide)).trans (hfN.1 0 (by decide))) ((hf2.1 1 (by decide)).trans (hfN.1 1 (by decide))) ((hf2.1 2 (by decide)).trans (hfN.1 2 (by decide))) hk2
  show M2.2 22 k = 0
  rw [hf2.2 22 (by decide)]
  show N.2 22 k = 0
  rw [hfN.2 22 (by decide)]
  rfl
end QE
