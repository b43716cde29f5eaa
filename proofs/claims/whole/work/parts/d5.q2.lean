/-! length and made -/
section QT2
variable {G : gT} {n c : Int} {w go : Int → Int} {T : Int → Int → Int → Bool} {v : Int → Int → Int → Nat} {M M1 M2 : ev_M}
theorem cat_mem (Ls : Nat → List Int) (P : Int → Prop) : ∀ z : Nat, (∀ d : Nat, d < z → ∀ x ∈ Ls d, P x) → ∀ x ∈ cat Ls z, P x := by
  intro z
  induction z with
  | zero => intro _ x hx; cases hx
  | succ z ih =>
    intro h x hx
    have hx : x ∈ cat Ls z ++ Ls z := hx
    rcases List.mem_append.mp hx with h1 | h1
    · exact ih (fun d hd => h d (by omega)) x h1
    · exact h z (by omega) x h1
theorem TR.nn {m i j : Int} {k : Nat} {L : List Int} (h : TR G n T v m i j k L) : ∀ x ∈ L, 0 ≤ x := by
  refine h (fun m i j k L => ∀ x ∈ L, 0 ≤ x) ?_
  intro m i j k r u Ls hu hr hl hc hS1 hS2 hch x hx
  rcases List.mem_cons.mp hx with e | hx
  · rw [e]; exact hr.1
  · refine cat_mem Ls (fun x => 0 ≤ x) _ (fun d hd x hx => ?_) x hx
    by_cases h6 : gs G r (d : Int) < 6
    · exact (hch d hd).2 h6 x hx
    · rw [(hch d hd).1 (by omega)] at hx
      cases hx
theorem st_length {k : Int} (h : INV M) : mLN k M (fun r w' M1 => m139 k (xM r w' M1) (fun w'' M2 => m93 M2 (fun t M3 => t = (r : Int) ∧ (r = 0 → M3.2 46 0 = w'') ∧ INV M3))) := by
  obtain ⟨G, n, w, T, c, go, hA, hT, hD, hR, hC, hM⟩ := h
  have hG := hA.1
  have hn := hT.1
  unfold mLN
  refine g_m80 hG hT hD hC (fun M1 f1 c1 ch1 u1 fo1 => ?_)
  have f1' : fr cS cA M M1 := f1.mono (by decide) (by decide)
  have f1'' : fr cS (46 :: cA) M M1 := f1'.mono (by decide) (by decide)
  -- the model, where the class refuses
  have bad : ∀ r : Nat, ((r = 1 ∧ sT_endless M1 = 1) ∨ (r = 2 ∧ sT_endless M1 = 0 ∧ ¬ (0 ≤ k ∧ k < ((vC M1 0 0 n : Nat) : Int)))) → m139 k M1 (fun w'' M2 => m93 M2 (fun t M3 => t = (r : Int) ∧ (r = 0 → M3.2 46 0 = w'') ∧ INV M3)) := by
    intro r hr
    refine b139 (g_m138 (M1 := M1) hG hT hD hR (MDL_byC hM f1') fo1 (fun M2 f2 m2 kn e1 => ⟨fun g => absurd g (by omega), fun _ => b139_27 (b93 ?_)⟩) (fun M2 f2 m2 kn e0 hno => ⟨fun g => absurd g (by omega), fun _ => b139_27 (b93 ?_)⟩) (fun M2 ρ f2 m2 kn e0 hI hmV hk => ?_))
    · refine ⟨?_, fun h0 => ?_, INV.mk hA hT hD hR f1' c1 (f2.sS (by decide)) (m2.fr (fr.refl.sS (c := 10) (S := [10]) (A := []) (by decide)) (by decide) (by decide))⟩
      · rcases hr with ⟨e, -⟩ | ⟨-, e, -⟩
        · rw [e]; rfl
        · omega
      · rcases hr with ⟨e, -⟩ | ⟨e, -⟩ <;> omega
    · refine ⟨?_, fun h0 => ?_, INV.mk hA hT hD hR f1' c1 (f2.sS (by decide)) (m2.fr (fr.refl.sS (c := 10) (S := [10]) (A := []) (by decide)) (by decide) (by decide))⟩
      · rcases hr with ⟨-, e⟩ | ⟨e, -⟩
        · omega
        · rw [e]; rfl
      · rcases hr with ⟨e, -⟩ | ⟨e, -⟩ <;> omega
    · rcases hr with ⟨-, e⟩ | ⟨-, -, hno⟩
      · omega
      · exact absurd hk hno
  unfold mRT
  by_cases e0 : sT_endless M1 = 0
  · rw [if_pos e0]
    have hI : ∃ ρ, FI G n T (usd G n T) ρ M1 := by
      rcases fo1 with ⟨e1, -⟩ | ⟨-, h2⟩
      · omega
      · exact h2
    obtain ⟨ρ, hI⟩ := hI
    by_cases hk0 : k < 0
    · rw [if_pos hk0]
      show m139 k (xM 2 0 M1) _
      have : xM 2 0 M1 = M1 := if_neg (by decide)
      rw [this]
      exact bad 2 (Or.inr ⟨rfl, e0, by omega⟩)
    · rw [if_neg hk0]
      refine g_m45 hT c1.2.1 hI.1 ?_
      by_cases hlt : k < ((vC M1 0 0 n : Nat) : Int)
      · rw [if_pos hlt]
        have hV := hI.VF hG hT hD
        have hu : usd G n T 0 0 n := hI.2.2.1 0 0 n (by omega) (by omega)
        have hvc : vC M1 0 0 n ≤ 1000000000 := by
          rw [hI.2.2.2.2.2.1 _ _ _ hu]; exact Nat.min_le_right _ _
        obtain ⟨L, hTR⟩ := TR.ex hG hT hD hV ((ρ 0 0 n).toNat + 1) 0 0 n k.toNat (by omega) hu (by omega)
        have ek : ((k.toNat : Nat) : Int) = k := by omega
        have g61 := g_m61 (Q := fun w M3 => m139 k (xM 0 w M3) (fun w'' M2 => m93 M2 (fun t M3 => t = ((0 : Nat) : Int) ∧ ((0 : Nat) = 0 → M3.2 46 0 = w'') ∧ INV M3))) hG hT hD c1.1 c1.2.1 hI (show k.toNat < 1000000000 by omega) hTR (fun M3 f3 => ?_)
        · rw [ek] at g61
          exact g61
        · have exM : xM 0 (L.length : Int) M3 = ev_sA M3 46 0 (L.length : Int) := if_pos rfl
          rw [exM]
          have f13 : fr cS (46 :: cA) M (ev_sA M3 46 0 (L.length : Int)) := (f1''.trans (f3.mono (by decide) (by decide))).sA (by decide)
          have c3 : CLS G n w T c go (ev_sA M3 46 0 (L.length : Int)) := (c1.fr f3 (by decide) (by decide)).fr (fr.refl.sA (c := 46) (S := []) (A := [46]) (by decide)) (by decide) (by decide)
          have m3 : MDL G n w T c go (ev_sA M3 46 0 (L.length : Int)) := hM.fr f13 (by decide) (by decide)
          have h46 : (ev_sA M3 46 0 (L.length : Int)).2 46 0 = (L.length : Int) := sA_same
          refine b139 (g_m138 (k := k) (M1 := M1) hG hT hD hR m3 fo1 (fun M4 f4 m4 kn e1 => by omega) (fun M4 f4 m4 kn _ hno => absurd ⟨by omega, hlt⟩ hno) (fun M4 ρ4 f4 m4 kn _ hI4 hmV hk => ⟨fun _ => ?_, fun g => absurd (by omega) g⟩))
          have g137 := g_m137 (x := -1) (L := L) (M := ev_sS M4 10 0) (Q := fun w2 M2 => c139_27 w2 M2 (fun w'' M2 => m93 M2 (fun t M3 => t = ((0 : Nat) : Int) ∧ ((0 : Nat) = 0 → M3.2 46 0 = w'') ∧ INV M3))) hG hT hD hV (m4.1.of rfl rfl rfl rfl) (m4.2.1.of rfl rfl) (kn.1.of rfl) (hmV.of rfl rfl) (show k.toNat < 1000000000 by omega) hTR (fun M5 f5 => ?_)
          · rw [ek] at g137
            exact g137
          · have f45 : fr mS mA (ev_sA M3 46 0 (L.length : Int)) M5 := (f4.sS (by decide)).trans (f5.mono (by decide) (by decide))
            refine b139_27 (b93 ⟨f5.1 10 (by decide), fun _ => ?_, INV.mk2 hA hT hD hR f13 c3 f45 ((m4.fr (fr.refl.sS (c := 10) (S := [10]) (A := []) (by decide)) (by decide) (by decide)).fr f5 (by decide) (by decide))⟩)
            rw [f45.2 46 (by decide), h46]
            exact (if_pos (by decide)).symm
      · rw [if_neg hlt]
        have : xM 2 0 M1 = M1 := if_neg (by decide)
        show m139 k (xM 2 0 M1) _
        rw [this]
        exact bad 2 (Or.inr ⟨rfl, e0, by omega⟩)
  · rw [if_neg e0]
    have : xM 1 0 M1 = M1 := if_neg (by decide)
    show m139 k (xM 1 0 M1) _
    rw [this]
    refine bad 1 (Or.inl ⟨rfl, ?_⟩)
    rcases fo1 with ⟨e1, -⟩ | ⟨e1, -⟩
    · exact e1
    · exact absurd e1 e0
theorem st_made {k x : Int} (hx : tm_iI x) (h : INV M) : mMD k x M (fun r w' M1 => m140 k x (xM r w' M1) (fun w'' M2 => m93 M2 (fun t M3 => t = (r : Int) ∧ (r = 0 → M3.2 46 0 = w'') ∧ INV M3))) := by
  obtain ⟨G, n, w, T, c, go, hA, hT, hD, hR, hC, hM⟩ := h
  have hG := hA.1
  have hn := hT.1
  unfold mMD
  refine g_m80 hG hT hD hC (fun M1 f1 c1 ch1 u1 fo1 => ?_)
  have f1' : fr cS cA M M1 := f1.mono (by decide) (by decide)
  have f1'' : fr cS (46 :: cA) M M1 := f1'.mono (by decide) (by decide)
  have bad : ∀ r : Nat, ((r = 1 ∧ sT_endless M1 = 1) ∨ (r = 2 ∧ sT_endless M1 = 0 ∧ ¬ (0 ≤ k ∧ k < ((vC M1 0 0 n : Nat) : Int)))) → m140 k x M1 (fun w'' M2 => m93 M2 (fun t M3 => t = (r : Int) ∧ (r = 0 → M3.2 46 0 = w'') ∧ INV M3)) := by
    intro r hr
    refine b140 (g_m138 (M1 := M1) hG hT hD hR (MDL_byC hM f1') fo1 (fun M2 f2 m2 kn e1 => ⟨fun g => absurd g (by omega), fun _ => b93 ?_⟩) (fun M2 f2 m2 kn e0 hno => ⟨fun g => absurd g (by omega), fun _ => b93 ?_⟩) (fun M2 ρ f2 m2 kn e0 hI hmV hk => ?_))
    · refine ⟨?_, fun h0 => ?_, INV.mk hA hT hD hR f1' c1 (f2.sS (by decide)) (m2.fr (fr.refl.sS (c := 10) (S := [10]) (A := []) (by decide)) (by decide) (by decide))⟩
      · rcases hr with ⟨e, -⟩ | ⟨-, e, -⟩
        · rw [e]; rfl
        · omega
      · rcases hr with ⟨e, -⟩ | ⟨e, -⟩ <;> omega
    · refine ⟨?_, fun h0 => ?_, INV.mk hA hT hD hR f1' c1 (f2.sS (by decide)) (m2.fr (fr.refl.sS (c := 10) (S := [10]) (A := []) (by decide)) (by decide) (by decide))⟩
      · rcases hr with ⟨-, e⟩ | ⟨e, -⟩
        · omega
        · rw [e]; rfl
      · rcases hr with ⟨e, -⟩ | ⟨e, -⟩ <;> omega
    · rcases hr with ⟨-, e⟩ | ⟨-, -, hno⟩
      · omega
      · exact absurd hk hno
  unfold mRT
  by_cases e0 : sT_endless M1 = 0
  · rw [if_pos e0]
    have hI : ∃ ρ, FI G n T (usd G n T) ρ M1 := by
      rcases fo1 with ⟨e1, -⟩ | ⟨-, h2⟩
      · omega
      · exact h2
    obtain ⟨ρ, hI⟩ := hI
    by_cases hk0 : k < 0
    · rw [if_pos hk0]
      show m140 k x (xM 2 0 M1) _
      have : xM 2 0 M1 = M1 := if_neg (by decide)
      rw [this]
      exact bad 2 (Or.inr ⟨rfl, e0, by omega⟩)
    · rw [if_neg hk0]
      refine g_m45 hT c1.2.1 hI.1 ?_
      by_cases hlt : k < ((vC M1 0 0 n : Nat) : Int)
      · rw [if_pos hlt]
        show (if x < 0 then m140 k x (xM 3 0 M1) (fun w'' M2 => m93 M2 (fun t M3 => t = ((3 : Nat) : Int) ∧ ((3 : Nat) = 0 → M3.2 46 0 = w'') ∧ INV M3)) else m60 k x M1 (fun w M3 => if w = -1 then m140 k x (xM 3 0 M3) (fun w'' M2 => m93 M2 (fun t M3 => t = ((3 : Nat) : Int) ∧ ((3 : Nat) = 0 → M3.2 46 0 = w'') ∧ INV M3)) else m140 k x (xM 0 w M3) (fun w'' M2 => m93 M2 (fun t M3 => t = ((0 : Nat) : Int) ∧ ((0 : Nat) = 0 → M3.2 46 0 = w'') ∧ INV M3))))
        have hV := hI.VF hG hT hD
        have hu : usd G n T 0 0 n := hI.2.2.1 0 0 n (by omega) (by omega)
        have hvc : vC M1 0 0 n ≤ 1000000000 := by
          rw [hI.2.2.2.2.2.1 _ _ _ hu]; exact Nat.min_le_right _ _
        obtain ⟨L, hTR⟩ := TR.ex hG hT hD hV ((ρ 0 0 n).toNat + 1) 0 0 n k.toNat (by omega) hu (by omega)
        have ek : ((k.toNat : Nat) : Int) = k := by omega
        -- the model's answer, from a memory behind the class's
        have mod : ∀ (r : Nat) (w' : Int) (M3 : ev_M), fr cS (46 :: cA) M M3 → CLS G n w T c go M3 → ((r = 3 ∧ (x < 0 ∨ (0 ≤ x ∧ tld L x = -1))) ∨ (r = 0 ∧ 0 ≤ x ∧ tld L x = w' ∧ 0 ≤ w' ∧ M3.2 46 0 = w')) → m140 k x M3 (fun w'' M2 => m93 M2 (fun t M3 => t = (r : Int) ∧ (r = 0 → M3.2 46 0 = w'') ∧ INV M3)) := by
          intro r w' M3 f13 c3 hr
          have m3 : MDL G n w T c go M3 := hM.fr f13 (by decide) (by decide)
          -- the end, with the model's answer a
          have fin : ∀ (a : Int) (M5 : ev_M), fr mS mA M3 M5 → MDL G n w T c go M5 → ((r = 3 ∧ a < 0) ∨ (r = 0 ∧ a = w' ∧ 0 ≤ a ∧ M3.2 46 0 = w')) → c140_33 a M5 (fun w'' M2 => m93 M2 (fun t M3 => t = (r : Int) ∧ (r = 0 → M3.2 46 0 = w'') ∧ INV M3)) := by
            intro a M5 f5 m5 ha
            have hI5 : ∀ z : Int, INV (ev_sS M5 10 z) := fun z => INV.mk2 hA hT hD hR f13 c3 (f5.sS (by decide)) (m5.fr (fr.refl.sS (c := 10) (S := [10]) (A := []) (by decide)) (by decide) (by decide))
            refine b140_33 ⟨fun h0 => b140_44 ⟨fun _ => b140_59 (b93 ⟨?_, fun _ => ?_, hI5 0⟩), fun g => absurd (by omega) g⟩, fun h0 => b140_44 ⟨fun g => absurd g (by omega), fun _ => b140_59 (b93 ⟨?_, fun e => ?_, hI5 3⟩)⟩⟩
            · rcases ha with ⟨-, h2⟩ | ⟨e, -⟩
              · omega
              · rw [e]; rfl
            · rcases ha with ⟨-, h2⟩ | ⟨-, e2, -, e3⟩
              · omega
              · show M5.2 46 0 = a
                rw [f5.2 46 (by decide), e3, e2]
            · rcases ha with ⟨e, -⟩ | ⟨-, -, h2, -⟩
              · rw [e]; rfl
              · exact absurd h2 h0
            · rcases ha with ⟨e2, -⟩ | ⟨-, -, h2, -⟩
              · omega
              · exact absurd h2 h0
          refine b140 (g_m138 (k := k) (M1 := M1) hG hT hD hR m3 fo1 (fun M4 f4 m4 kn e1 => by omega) (fun M4 f4 m4 kn _ hno => absurd ⟨by omega, hlt⟩ hno) (fun M4 ρ4 f4 m4 kn _ hI4 hmV hk => ⟨fun _ => ⟨fun hx0 => ?_, fun hx0 => ?_⟩, fun g => absurd (by omega) g⟩))
          · have g137 := g_m137 (x := x) (L := L) (M := ev_sS M4 10 0) (Q := fun w2 M2 => c140_33 w2 M2 (fun w'' M2 => m93 M2 (fun t M3 => t = (r : Int) ∧ (r = 0 → M3.2 46 0 = w'') ∧ INV M3))) hG hT hD hV (m4.1.of rfl rfl rfl rfl) (m4.2.1.of rfl rfl) (kn.1.of rfl) (hmV.of rfl rfl) (show k.toNat < 1000000000 by omega) hTR (fun M5 f5 => ?_)
            · rw [ek] at g137
              exact g137
            · have f45 : fr mS mA M3 M5 := (f4.sS (by decide)).trans (f5.mono (by decide) (by decide))
              refine fin _ M5 f45 ((m4.fr (fr.refl.sS (c := 10) (S := [10]) (A := []) (by decide)) (by decide) (by decide)).fr f5 (by decide) (by decide)) ?_
              rcases hr with ⟨e, h2⟩ | ⟨e, -, e2, e3, e4⟩
              · refine Or.inl ⟨e, ?_⟩
                rcases h2 with h2 | h2
                · omega
                · rw [h2.2]; omega
              · exact Or.inr ⟨e, e2, by rw [e2]; exact e3, e4⟩
          · refine fin (-1) _ (f4.sS (by decide)) (m4.fr (fr.refl.sS (c := 10) (S := [10]) (A := []) (by decide)) (by decide) (by decide)) ?_
            rcases hr with ⟨e, -⟩ | ⟨-, h2, -⟩
            · exact Or.inl ⟨e, by omega⟩
            · exact absurd h2 hx0
        by_cases hx0 : x < 0
        · rw [if_pos hx0]
          have : xM 3 0 M1 = M1 := if_neg (by decide)
          rw [this]
          exact mod 3 0 M1 f1'' c1 (Or.inl ⟨rfl, Or.inl hx0⟩)
        · rw [if_neg hx0]
          have g60 := g_m60 (x := x) (Q := fun w M3 => if w = -1 then m140 k x (xM 3 0 M3) (fun w'' M2 => m93 M2 (fun t M3 => t = ((3 : Nat) : Int) ∧ ((3 : Nat) = 0 → M3.2 46 0 = w'') ∧ INV M3)) else m140 k x (xM 0 w M3) (fun w'' M2 => m93 M2 (fun t M3 => t = ((0 : Nat) : Int) ∧ ((0 : Nat) = 0 → M3.2 46 0 = w'') ∧ INV M3))) hG hT hD c1.1 c1.2.1 hI (show k.toNat < 1000000000 by omega) ⟨by omega, hx.2⟩ hTR (fun hlt2 M3 f3 => ?_) (fun hge M3 f3 hp3 => ?_)
          · rw [ek] at g60
            exact g60
          · have etl : tld L x = (L[x.toNat]?).getD (-1) := if_neg hx0
            have hsome : L[x.toNat]? = some (L[x.toNat]'(by omega)) := List.getElem?_eq_getElem (by omega)
            have hnn : 0 ≤ L[x.toNat]'(by omega) := hTR.nn _ (List.getElem_mem _)
            have hval : (L[x.toNat]?).getD (-1) = L[x.toNat]'(by omega) := by rw [hsome]; rfl
            rw [if_neg (by rw [hval]; omega)]
            have exM : xM 0 ((L[x.toNat]?).getD (-1)) M3 = ev_sA M3 46 0 ((L[x.toNat]?).getD (-1)) := if_pos rfl
            rw [exM]
            exact mod 0 ((L[x.toNat]?).getD (-1)) _ ((f1''.trans (f3.mono (by decide) (by decide))).sA (by decide)) ((c1.fr f3 (by decide) (by decide)).fr (fr.refl.sA (c := 46) (S := []) (A := [46]) (by decide)) (by decide) (by decide)) (Or.inr ⟨rfl, by omega, etl, by rw [hval]; exact hnn, sA_same⟩)
          · rw [if_pos rfl]
            have exM : xM 3 0 M3 = M3 := if_neg (by decide)
            rw [exM]
            refine mod 3 0 M3 (f1''.trans (f3.mono (by decide) (by decide))) (c1.fr f3 (by decide) (by decide)) (Or.inl ⟨rfl, Or.inr ⟨by omega, ?_⟩⟩)
            show (if x < 0 then (L.length : Int) else (L[x.toNat]?).getD (-1)) = -1
            rw [if_neg hx0, List.getElem?_eq_none (by omega)]; rfl
      · rw [if_neg hlt]
        have : xM 2 0 M1 = M1 := if_neg (by decide)
        show m140 k x (xM 2 0 M1) _
        rw [this]
        exact bad 2 (Or.inr ⟨rfl, e0, by omega⟩)
  · rw [if_neg e0]
    have : xM 1 0 M1 = M1 := if_neg (by decide)
    show m140 k x (xM 1 0 M1) _
    rw [this]
    refine bad 1 (Or.inl ⟨rfl, ?_⟩)
    rcases fo1 with ⟨e1, -⟩ | ⟨e1, -⟩
    · exact e1
    · exact absurd e1 e0
end QT2
