/-! The steps rule and clear -/
/-- what the builds and the written rules may touch -/
abbrev rlS : List Nat := [4, 13, 14, 15, 16]
abbrev rlA : List Nat := [2, 3, 4, 6, 7, 8, 9, 31, 32, 33, 35, 36, 37]
section SR
variable {G : gT} {M : ev_M} {x1 x2 x3 x4 x5 : Int} {R : ev_M → Prop}
/-- both automata out of both builds -/
theorem AUT.mk {N M2 : ev_M} (hG : okG G) (hC : isC G M2) (hM : isM G M2) (e4 : M2.1 4 = N.1 4) (e6 : M2.2 6 = N.2 6) (e7 : M2.2 7 = N.2 7) (e8 : M2.2 8 = N.2 8) (hE : auE G (sA_count N) (fun q => aA_kernel N q.toNat) (fun j => aA_goal N j.toNat)) (hw : awJ G (sA_count N) N) (hs : sM_states M2 = sA_count N) (hr : ∀ q : Int, 0 ≤ q → q < sA_count N → rep G (aA_kernel N q.toNat) (aM_low M2 q.toNat) (aM_high M2 q.toNat)) (hg : ∀ i : Int, 0 ≤ i → i < 10 * sA_count N → aM_ways M2 i.toNat = aA_goal N i.toNat) : AUT G M2 := by
  refine ⟨hG, hC, hM, ?_⟩
  unfold awJ at hw ⊢
  simp only [sA_count, aA_kernel, aA_goal, aA_awaited, aM_low, aM_high, aM_ways] at *
  rw [e4, e6, e7, e8]
  exact ⟨hE, hw, hs, hr, hg⟩
theorem st_rule (hA : AUT G M) (hno : ∀ M2 : ev_M, fr rlS rlA M M2 → AUT G M2 → (sM_known M2 = sM_known M ∨ sM_known M2 = 0) → (sA_count M2 = sA_count M ∧ ∀ j : Int, 0 ≤ j → j < 10 * sA_count M → aA_goal M2 j.toNat = aA_goal M j.toNat) → R M2) (hyes : ∀ (G' : gT) (M2 : ev_M), AUT G' M2 → fr (0 :: 1 :: 2 :: 3 :: 11 :: rlS) rlA M M2 → M2.1 0 = 0 → M2.1 1 = 0 → M2.1 2 = 0 → sM_known M2 = 0 → R M2) : m64 x1 x2 x3 x4 x5 M (fun w M1 => m97 x1 x2 x3 x4 x5 M1 (fun w' M2 => w = w' ∧ R M2)) := by
  have hA' := hA
  obtain ⟨hG, hC, hM, hE, hw, hs, hr, hgo⟩ := hA
  have gc := hG.1
  have ec := hC.1
  have em := hM.1
  refine b64 (g_m10 (by omega) (fun k k0 k1 => ?_) (fun hb => ⟨fun g => absurd rfl g, fun _ => ?_⟩) (fun hb hn => ⟨fun g => absurd rfl g, fun _ => ?_⟩) (fun hb hok => ⟨fun _ => ?_, fun g => absurd (by decide) g⟩))
  · rw [(hC.2 k k0 (by omega)).2.1]
    exact (hG.2 k k0 (by omega)).2.1.2
  · have hR : R M := hno M fr.refl hA' (Or.inl rfl) ⟨rfl, fun _ _ _ => rfl⟩
    exact g_m97 (by omega) (fun _ => ⟨rfl, hR⟩) (fun h _ => absurd ⟨h.1, h.2.1, by omega⟩ hb) (fun h _ => absurd ⟨h.1, h.2.1, by omega⟩ hb) (fun h _ => absurd ⟨h.1, h.2.1, by omega⟩ hb)
  · have hfW : fr rlS rlA M (WG M x1 x2 x3 x4 x5) := WG_fr.mono (by decide) (by decide)
    have emW : sM_rules (WG M x1 x2 x3 x4 x5) = gn G := em
    have hMW : isM G (WG M x1 x2 x3 x4 x5) := hM.of rfl rfl rfl rfl
    have fin : ∀ M2 : ev_M, fr [] [2, 3, 4, 31, 32, 33] M M2 → isC G M2 → isM G M2 → R M2 := by
      intro M2 hf c1 c2
      refine hno M2 (hf.mono (by decide) (by decide)) (AUT.mk (N := M) hG c1 c2 (hf.1 4 (by decide)) (hf.2 6 (by decide)) (hf.2 7 (by decide)) (hf.2 8 (by decide)) hE hw ((hf.1 13 (by decide)).trans hs) (fun q q0 q1 => ?_) (fun i i0 i1 => ?_)) (Or.inl (hf.1 16 (by decide))) ⟨hf.1 4 (by decide), fun j _ _ => congrFun (hf.2 8 (by decide)) _⟩
      · have := hr q q0 q1
        simp only [aM_low, aM_high] at this ⊢
        rw [hf.2 35 (by decide), hf.2 36 (by decide)]
        exact this
      · have := hgo i i0 i1
        simp only [aM_ways] at this ⊢
        rw [hf.2 37 (by decide)]
        exact this
    have hfW0 : fr [] [2, 3, 4, 31, 32, 33] M (WG M x1 x2 x3 x4 x5) := WG_fr.mono (by decide) (by decide)
    have hCW : isC G (WG M x1 x2 x3 x4 x5) := isC_keep hG hC
    refine g_m97 (by omega) (fun h => absurd ⟨hb.1, hb.2.1, by omega⟩ h) (fun _ _ => ⟨rfl, fin _ hfW0 hCW hMW⟩) (fun _ _ _ => ⟨rfl, fin _ (hfW0.trans (WM_fr.mono (by decide) (by decide))) (hCW.of rfl rfl rfl rfl) (isM_keep hG hMW)⟩) (fun _ hsy hnone => absurd ((okR_iff hG hC).mpr ⟨hsy, fun k k0 k1 hsame => ?_⟩) hn)
    refine hnone k k0 (by omega) ?_
    rw [emW]
    exact (sameM_iff (isM_add (x1 := x1) (x2 := x2) (x3 := x3) (x4 := x4) (x5 := x5) hG hMW) (a := k) (b := gn G) ⟨k0, by rw [gadd_n]; omega⟩ ⟨gc.1, by rw [gadd_n]; omega⟩).mpr hsame
  · obtain ⟨hsy, hnone⟩ := (okR_iff hG hC).mp hok
    have hG' : okG (gadd G x1 x2 x3 x4 x5) := okG_add hG (by omega) ⟨hb.1, hb.2.1⟩ hsy
    have hC' : isC (gadd G x1 x2 x3 x4 x5) (ev_sS (WG M x1 x2 x3 x4 x5) 3 (sG_count M + 1)) := isC_add hG hC
    have hf1 : fr (0 :: 1 :: 2 :: 3 :: 11 :: rlS) rlA M (ev_sS (WG M x1 x2 x3 x4 x5) 3 (sG_count M + 1)) := (WG_fr.mono (by decide) (by decide)).sS (by decide)
    have hf1' : fr (3 :: 11 :: rlS) rlA M (ev_sS (WG M x1 x2 x3 x4 x5) 3 (sG_count M + 1)) := (WG_fr.mono (by decide) (by decide)).sS (by decide)
    have hM1 : isM G (ev_sS (WG M x1 x2 x3 x4 x5) 3 (sG_count M + 1)) := hM.of rfl rfl rfl rfl
    -- the model's rule, up to its build
    have mod : ∀ (N : ev_M) (v : Int), isM G N → (m91 (ev_sS (WM N x1 x2 x3 x4 x5) 11 (sM_rules N + 1)) (fun w2 M2 => (¬ w2 = 0 → (tm_iI ((sM_rules M2) - 1) ∧ (v = sM_rules M2 - 1 ∧ R M2))) ∧ (¬ (¬ w2 = 0) → (tm_iI ((sM_rules M2) - 1) ∧ (m91 (ev_sS M2 11 ((sM_rules M2) - 1)) (fun _ M3 => v = -1 ∧ R M3)))))) → m97 x1 x2 x3 x4 x5 N (fun w' M2 => v = w' ∧ R M2) := by
      intro N v hN h
      have e1 := hN.1
      refine g_m97 (by omega) (fun h => absurd ⟨hb.1, hb.2.1, by omega⟩ h) (fun _ h => absurd hsy h) (fun _ _ hex => ?_) (fun _ _ _ => h)
      obtain ⟨k, k0, k1, hk⟩ := hex
      rw [e1] at k1 hk
      exact absurd ((sameM_iff (isM_add (x1 := x1) (x2 := x2) (x3 := x3) (x4 := x4) (x5 := x5) hG hN) (a := k) (b := gn G) ⟨k0, by rw [gadd_n]; omega⟩ ⟨gc.1, by rw [gadd_n]; omega⟩).mp hk) (hnone k k0 k1)
    refine g_m19 hG' hC' (fun N hfN hEN hwN => ⟨fun _ => b63 ?_, fun g => absurd (by decide) g⟩) (fun N hfN hF => ⟨fun g => absurd rfl g, fun _ => ?_⟩)
    · -- taken
      have e3 : N.1 3 = gn G + 1 := (hfN.1 3 (by decide)).trans hC'.1
      have e3' : sG_count (ev_sS (ev_sS (ev_sS N 0 0) 1 0) 2 0) = gn G + 1 := e3
      have hMN : isM G (ev_sS (ev_sS (ev_sS N 0 0) 1 0) 2 0) := hM1.of (hfN.1 11 (by decide)) (hfN.2 31 (by decide)) (hfN.2 32 (by decide)) (hfN.2 33 (by decide))
      have eM := hMN.1
      refine ⟨⟨by omega, by omega⟩, mod _ _ hMN (g_m91 hG' (isM_add hG hMN) hEN (fun M2 hf2 hk2 hs2 hr2 hw2 => ⟨fun _ => ?_, fun g => absurd (by decide) g⟩))⟩
      have e11 : sM_rules M2 = gn G + 1 := (hf2.1 11 (by decide)).trans (isM_add (x1 := x1) (x2 := x2) (x3 := x3) (x4 := x4) (x5 := x5) hG hMN).1
      have hM2 : isM (gadd G x1 x2 x3 x4 x5) M2 := (isM_add hG hMN).of (hf2.1 11 (by decide)) (hf2.2 31 (by decide)) (hf2.2 32 (by decide)) (hf2.2 33 (by decide))
      have hC2 : isC (gadd G x1 x2 x3 x4 x5) M2 := hC'.of ((hf2.1 3 (by decide)).trans (hfN.1 3 (by decide))) ((hf2.2 2 (by decide)).trans (hfN.2 2 (by decide))) ((hf2.2 3 (by decide)).trans (hfN.2 3 (by decide))) ((hf2.2 4 (by decide)).trans (hfN.2 4 (by decide)))
      refine ⟨⟨by omega, by omega⟩, by omega, hyes (gadd G x1 x2 x3 x4 x5) M2 (AUT.mk (N := N) hG' hC2 hM2 (hf2.1 4 (by decide)) (hf2.2 6 (by decide)) (hf2.2 7 (by decide)) (hf2.2 8 (by decide)) hEN hwN hs2 hr2 hw2) ?_ (hf2.1 0 (by decide)) (hf2.1 1 (by decide)) (hf2.1 2 (by decide)) hk2⟩
      have g1 := hf1.trans (hfN.mono (by decide) (by decide))
      have g2 : fr (0 :: 1 :: 2 :: 3 :: 11 :: rlS) rlA M (ev_sS (ev_sS (ev_sS N 0 0) 1 0) 2 0) := ((g1.sS (by decide)).sS (by decide)).sS (by decide)
      have g3 := (g2.trans (WM_fr (x1 := x1) (x2 := x2) (x3 := x3) (x4 := x4) (x5 := x5) |>.mono (by decide) (by decide))).sS (c := 11) (x := sM_rules (ev_sS (ev_sS (ev_sS N 0 0) 1 0) 2 0) + 1) (by decide)
      exact g3.trans (hf2.mono (by decide) (by decide))
    · -- too many states
      have e3 : sG_count N = gn G + 1 := (hfN.1 3 (by decide)).trans hC'.1
      refine g_m11 (by omega) ?_
      have hCN : isC G (ev_sS N 3 (sG_count N - 1)) := isC_drop (hC'.of (hfN.1 3 (by decide)) (hfN.2 2 (by decide)) (hfN.2 3 (by decide)) (hfN.2 4 (by decide))) (by omega)
      refine g_m19 hG hCN (fun N2 hfN2 hEN hwN => ?_) (fun N2 hfN2 hF2 => absurd (hE.notF hF2) id)
      have hMN : isM G N2 := hM1.of ((hfN2.1 11 (by decide)).trans (hfN.1 11 (by decide))) ((hfN2.2 31 (by decide)).trans (hfN.2 31 (by decide))) ((hfN2.2 32 (by decide)).trans (hfN.2 32 (by decide))) ((hfN2.2 33 (by decide)).trans (hfN.2 33 (by decide)))
      have eM := hMN.1
      refine mod N2 (-1) hMN (g_m91F hG' (isM_add hG hMN) hF (fun N3 hf3 => ⟨fun g => absurd rfl g, fun _ => ?_⟩))
      have hM3' : isM (gadd G x1 x2 x3 x4 x5) N3 := (isM_add hG hMN).of (hf3.1 11 (by decide)) (hf3.2 31 (by decide)) (hf3.2 32 (by decide)) (hf3.2 33 (by decide))
      have e11 := hM3'.1
      rw [gadd_n] at e11
      have hM3 : isM G (ev_sS N3 11 (sM_rules N3 - 1)) := isM_drop hM3' (by omega)
      refine ⟨⟨by omega, by omega⟩, g_m91 hG hM3 hEN (fun M2 hf2 hk2 hs2 hr2 hw2 => ⟨rfl, ?_⟩)⟩
      have f0 : ∀ c : Nat, c ∉ [31, 32, 33, 35, 36, 37] → M2.2 c = N2.2 c := by
        intro c hc
        have c1 : c ∉ [35, 36, 37] := fun h => hc (by revert h; simp only [List.mem_cons, List.not_mem_nil, or_false]; omega)
        have c2 : c ∉ [31, 32, 33] := fun h => hc (by revert h; simp only [List.mem_cons, List.not_mem_nil, or_false]; omega)
        exact (hf2.2 c c1).trans ((hf3.2 c c1).trans (WM_fr.2 c c2))
      have f1 : ∀ n : Nat, n ∉ [11, 13, 14, 15, 16] → M2.1 n = N2.1 n := by
        intro c hc
        have c1 : c ∉ [13, 14, 15, 16] := fun h => hc (by revert h; simp only [List.mem_cons, List.not_mem_nil, or_false]; omega)
        have c2 : ¬ c = 11 := fun h => hc (by rw [h]; decide)
        refine (hf2.1 c c1).trans ?_
        show (if c = 11 then _ else N3.1 c) = _
        rw [if_neg c2, hf3.1 c c1]
        show (if c = 11 then _ else (WM N2 x1 x2 x3 x4 x5).1 c) = _
        rw [if_neg c2]
        rfl
      have hM2 : isM G M2 := hM3.of (hf2.1 11 (by decide)) (hf2.2 31 (by decide)) (hf2.2 32 (by decide)) (hf2.2 33 (by decide))
      have hC2 : isC G M2 := hCN.of ((f1 3 (by decide)).trans (hfN2.1 3 (by decide))) ((f0 2 (by decide)).trans (hfN2.2 2 (by decide))) ((f0 3 (by decide)).trans (hfN2.2 3 (by decide))) ((f0 4 (by decide)).trans (hfN2.2 4 (by decide)))
      have hAU : AUT G M2 := AUT.mk (N := N2) hG hC2 hM2 (f1 4 (by decide)) (f0 6 (by decide)) (f0 7 (by decide)) (f0 8 (by decide)) hEN hwN hs2 hr2 hw2
      have g1 := hf1'.trans (hfN.mono (by decide) (by decide))
      have g2 : fr (3 :: 11 :: rlS) rlA M (ev_sS N 3 (sG_count N - 1)) := g1.sS (by decide)
      have g3 := g2.trans (hfN2.mono (by decide) (by decide))
      have g4 : fr (3 :: 11 :: rlS) rlA N2 M2 := ⟨fun n hn => f1 n (fun h => hn (by revert h; simp only [List.mem_cons, List.not_mem_nil, or_false]; omega)), fun n hn => f0 n (fun h => hn (by revert h; simp only [List.mem_cons, List.not_mem_nil, or_false]; omega))⟩
      have g5 := g3.trans g4
      have u := hE.uniq hEN
      refine hno M2 ((g5.drop ?_).drop ?_) hAU (Or.inr hk2) ⟨?_, fun j j0 j1 => ?_⟩
      · exact hC2.1.trans hC.1.symm
      · exact hM2.1.trans hM.1.symm
      · show M2.1 4 = _
        rw [f1 4 (by decide)]
        exact u.1.symm
      · show M2.2 8 j.toNat = _
        rw [f0 8 (by decide)]
        exact u.2.2 j j0 j1
end SR
