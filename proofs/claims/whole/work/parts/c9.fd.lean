/-! The class: find -/
section FD
variable {G : gT} {n : Int} {w : Int → Int} {T : Int → Int → Int → Bool} {ρ : Int → Int → Int → Int} {M M' : ev_M}
theorem FI.VF (hG : okG G) (hT : okT n w) (hD : isD G n w T) (h : FI G n T (usd G n T) ρ M) : VF G n T (vC M) ρ := ⟨h.cvE hG hT hD, h.ont hG hT hD, h.2.2.1, h.2.2.2.2.2.1, fun m i j hu => ⟨(h.2.2.2.2.1 m i j hu).1, fun x p e hk => ((h.2.2.2.2.1 m i j hu).2 x p e hk).2⟩⟩
theorem FI.first (hG : okG G) (hT : okT n w) (hD : isD G n w T) (h : FI G n T (usd G n T) ρ M) {m i j : Int} {L : List Int} (hTR : TR G n T (vC M) m i j 0 L) : (L.length : Int) = fC' M m i j := by
  have hn := hT.1
  refine hTR.first hG hT hD (h.VF hG hT hD) (fun m i j h6 hne => (h.2.2.2.2.2.2 m i j h6 hne).1) (fun x p e h6 ht => ?_) rfl
  have := ((hD _ _ _).mp ht).rng hG hT
  exact (h.2.1 x p e h6 (by omega) (by omega) (by omega) (by omega) (by omega)).2
abbrev wkA : List Nat := [23, 24, 26, 27, 28, 29]
theorem g_m60 {Q : Int → ev_M → Prop} {k : Nat} {x : Int} {L : List Int} (hG : okG G) (hT : okT n w) (hD : isD G n w T) (hC : isC G M) (hX : isX n w M) (hF : FI G n T (usd G n T) ρ M) (hk : k < 1000000000) (hx : 0 ≤ x ∧ x < 2147483648) (hTR : TR G n T (vC M) 0 0 n k L)
    (h1 : x < (L.length : Int) → ∀ M' : ev_M, fr [8, 9] wkA M M' → Q ((L[x.toNat]?).getD (-1)) M') (h2 : (L.length : Int) ≤ x → ∀ M' : ev_M, fr [8, 9] wkA M M' → sW_passed M' = (L.length : Int) → Q (-1) M') : m60 (k : Int) x M Q := by
  have hn := hT.1
  have hV := hF.VF hG hT hD
  have hρ := hV.2.2.2.2
  have hzL := hTR.size hG hT hD hV
  have hr0 := hzL.1.rng hG hT hD
  have hρ0 := (hρ _ _ _ hzL.1).1
  have hLb : (L.length : Int) ≤ 466944 := by
    have := szB_le (l := n - 0) (p := ρ 0 0 n - 6 * (n - 0)) (by omega) (by omega)
    omega
  have key : ∀ (N : Nat) (M1 : ev_M) (es : List ent) (q : Nat) (st : Int), pot es ≤ N → 0 ≤ st → st + pot es ≤ 466954 → fr [8, 9] wkA M M1 → stC G n T (vC M) ρ M1 es → sW_waiting M1 = (es.length : Int) → sW_passed M1 = (q : Int) → L.drop q = flat es → q ≤ L.length → (q : Int) ≤ x → c60_29 x st M1 Q := by
    have done : ∀ (M1 : ev_M) (q : Nat) (st : Int), 0 ≤ st → st ≤ 466954 → fr [8, 9] wkA M M1 → sW_waiting M1 = 0 → sW_passed M1 = (q : Int) → L.drop q = [] → q ≤ L.length → (q : Int) ≤ x → c60_29 x st M1 Q := by
      intro M1 q st s0 s1 hf1 hw1 hp1 hR hq hqx
      have hlen : L.length = q := by
        have := congrArg List.length hR
        rw [List.length_drop] at this
        have h2 : ([] : List Int).length = 0 := rfl
        omega
      exact b60_29 ⟨fun g => absurd g (by omega), fun _ => ⟨fun _ => b60_169 (h2 (by omega) M1 hf1 (by rw [hp1, hlen])), fun g => absurd (by omega) g⟩⟩
    intro N
    induction N with
    | zero =>
      intro M1 es q st hN s0 hst hf1 hs1 hw1 hp1 hR hq hqx
      cases es with
      | nil => exact done M1 q st s0 (by have : pot [] = 0 := rfl; omega) hf1 hw1 hp1 hR hq hqx
      | cons e es =>
        have h5 := hs1.2.2.2.2.pot0 hG hT hD hV es
        have h6 : pot (e :: es) = (e.2.2.2.2.length : Int) + (e.2.2.1 - e.2.1) + pot es := rfl
        rcases hs1.2.2.1 with ⟨-, b1, -⟩ | ⟨b0, b1, -⟩
        · have h7 := b1.size hG hT hD hV
          have := h7.1.rng hG hT hD
          omega
        · have := (((hD _ _ _).mp b1).rng hG hT).2.2.2.2 b0.1
          omega
    | succ N ih =>
      intro M1 es q st hN s0 hst hf1 hs1 hw1 hp1 hR hq hqx
      cases es with
      | nil => exact done M1 q st s0 (by have : pot [] = 0 := rfl; omega) hf1 hw1 hp1 hR hq hqx
      | cons e es =>
        obtain ⟨m, i, j, k1, L1⟩ := e
        obtain ⟨a1, a2, a3, a4, a5⟩ := hs1
        dsimp only at a1 a2 a3 a4
        have h5 := a5.pot0 hG hT hD hV es
        have h6 : pot ((m, i, j, k1, L1) :: es) = (L1.length : Int) + (j - i) + pot es := rfl
        rw [h6] at hN hst
        rw [List.length_cons] at hw1
        have hpos : (sW_waiting M1 - 1).toNat = es.length := by omega
        have eflat : flat ((m, i, j, k1, L1) :: es) = L1 ++ flat es := rfl
        rw [eflat] at hR
        have hF1 : FI G n T (usd G n T) ρ M1 := hF.mem (hf1.2 21 (by decide)) (hf1.2 22 (by decide))
        have ev1 : vC M1 = vC M := vC.of (hf1.2 21 (by decide))
        have hfl1 : ∀ z : Nat, aT_firstLength M1 z = aT_firstLength M z := fun z => congrFun (hf1.2 22 (by decide)) z
        have hC2 : isC G (ev_sS M1 8 (sW_waiting M1 - 1)) := hC.of (hf1.1 3 (by decide)) (hf1.2 2 (by decide)) (hf1.2 3 (by decide)) (hf1.2 4 (by decide))
        have hF2 : FI G n T (usd G n T) ρ (ev_sS M1 8 (sW_waiting M1 - 1)) := hF1.mem rfl rfl
        -- into a maker's part
        have into : m < 6 → TR G n T (vC M) m i j k1 L1 → (es.length : Int) + 3 * (ρ m i j + 1) + 1 ≤ 199 → c60_120 x st ((m * 11 + i) * 11 + j) (k1 : Int) (ev_sS M1 8 (sW_waiting M1 - 1)) Q := by
          intro hm6 b1 b2
          obtain ⟨r, u, Ls, hu, hr, hl, hc, hS1, hS2, hch, hL1⟩ := b1.inv
          have hrg := hu.rng hG hT hD
          rw [hL1] at hR
          have hlq := congrArg List.length hR
          rw [List.length_drop, List.cons_append, List.length_cons] at hlq
          have hget : L[q]? = some r := by
            have := congrArg (fun l => l[0]?) hR
            rw [List.getElem?_drop] at this
            exact this
          have hnext : L.drop (q + 1) = cat Ls (gz G r).toNat ++ flat es := by
            have := congrArg List.tail hR
            rw [List.tail_drop] at this
            exact this
          have ev2 : vC (ev_sS M1 8 (sW_waiting M1 - 1)) = vC M := ev1
          refine b60_120 (g_m58 (ρ := ρ) hG hT hD hC2 hF2 hu rfl a4 hr hl hc (by rw [ev2]; exact hS1) (by rw [ev2]; exact hS2) (fun M3 hf3 hcut hsh => ?_))
          rw [ev2] at hsh
          have hf13 : fr [8, 9] wkA M M3 := (hf1.sS (by decide)).trans (hf3.mono (by decide) (by decide))
          have hp3 : sW_passed M3 = (q : Int) := (hf3.1 9 (by decide)).trans hp1
          refine ⟨fun g => absurd g (by omega), fun _ => ⟨fun hne => ⟨⟨by omega, by omega⟩, ?_⟩, fun heq => b60_144 ?_⟩⟩
          · have hC4 : isC G (ev_sS M3 9 (sW_passed M3 + 1)) := hC.of (hf13.1 3 (by decide)) (hf13.2 2 (by decide)) (hf13.2 3 (by decide)) (hf13.2 4 (by decide))
            have hs4 : stC G n T (vC M) ρ (ev_sS M3 9 (sW_passed M3 + 1)) es := a5.of es (fun z _ => ⟨congrFun (hf3.2 28 (by decide)) z, congrFun (hf3.2 29 (by decide)) z⟩)
            have hw4 : sW_waiting (ev_sS M3 9 (sW_passed M3 + 1)) = (es.length : Int) := by
              have h8 : sW_waiting M3 = sW_waiting M1 - 1 := hf3.1 8 (by decide)
              show sW_waiting M3 = _
              omega
            refine g_m59 hG hT hD hV hC4 hu hr hl hc (by omega) hcut hsh hch hs4 hw4 b2 (fun M5 es5 hf5 hs5 hw5 hfl5 hpot5 => b60_163 ⟨⟨by omega, by omega⟩, ?_⟩)
            have hlen1 : (L1.length : Int) = 1 + ((cat Ls (gz G r).toNat).length : Int) := by rw [hL1, List.length_cons]; omega
            have hp5 : sW_passed M5 = ((q + 1 : Nat) : Int) := by
              have h8 : sW_passed M5 = sW_passed M3 + 1 := hf5.1 9 (by decide)
              omega
            exact ih M5 es5 (q + 1) (st + 1) (by omega) (by omega) (by omega) ((hf13.sS (by decide)).trans (hf5.mono (by decide) (by decide))) hs5 hw5 hp5 (by rw [hfl5]; exact hnext) (by omega) (by omega)
          · have hxq : (q : Int) = x := hp3.symm.trans (Decidable.of_not_not heq)
            have := h1 (by omega) M3 hf13
            rw [show x.toNat = q by omega, hget] at this
            exact this
        have hbnd : (es.length : Int) < 199 := by
          rcases a3 with ⟨-, b1, b2⟩ | ⟨-, -, -, -, b2⟩
          · have := (hρ _ _ _ (b1.size hG hT hD hV).1).1
            have := (b1.size hG hT hD hV).1.rng hG hT hD
            omega
          · omega
        have hndr : 0 ≤ (m * 11 + i) * 11 + j ∧ (m * 11 + i) * 11 + j < 1210 := by
          rcases a3 with ⟨-, b1, -⟩ | ⟨b0, b1, -⟩
          · have := (b1.size hG hT hD hV).1.rng hG hT hD
            omega
          · have := ((hD _ _ _).mp b1).rng hG hT
            omega
        -- the length of the first tree, where it is the tree
        have hfe : k1 = 0 → aT_firstLength M1 ((m * 11 + i) * 11 + j).toNat = (L1.length : Int) := by
          intro hk0
          rw [hfl1]
          rcases a3 with ⟨-, b1, -⟩ | ⟨b0, b1, -, b3, -⟩
          · rw [hk0] at b1
            exact (hF.first hG hT hD b1).symm
          · have := ((hD _ _ _).mp b1).rng hG hT
            rw [b3]
            exact (hF.2.1 m i j b0.1 b0.2 (by omega) (by omega) (by omega) (by omega)).2
        have hij0 : 0 ≤ j - i := by
          rcases a3 with ⟨-, b1, -⟩ | ⟨-, b1, -⟩
          · have := (b1.size hG hT hD hV).1.rng hG hT hD
            omega
          · have := ((hD _ _ _).mp b1).rng hG hT
            omega
        have hL1b : (L1.length : Int) ≤ 466954 := by omega
        refine b60_29 ⟨fun g => absurd g (by omega), fun _ => ⟨fun g => absurd g (by omega), fun _ => ⟨⟨by omega, by omega⟩, ⟨by omega, by omega⟩, ⟨by omega, by omega⟩, ?_⟩⟩⟩
        rw [hpos, a1, a2]
        refine ⟨fun hne => ?_, fun hze => ⟨⟨by omega, by omega⟩, hndr, fun hlt => ?_, fun hge => ⟨hndr, ?_, b60_163 ⟨⟨by omega, by omega⟩, ?_⟩⟩⟩⟩
        · rcases a3 with ⟨b0, b1, b2⟩ | ⟨-, -, b1, -⟩
          · exact into b0 b1 b2
          · exact absurd (by rw [b1]; rfl) hne
        · have hk0 : k1 = 0 := by have := Decidable.of_not_not hze; omega
          rw [hfe hk0, hp1] at hlt
          rcases a3 with ⟨b0, b1, b2⟩ | ⟨-, -, -, b3, -⟩
          · exact into b0 b1 b2
          · rw [b3] at hlt
            have : (([] : List Int).length : Int) = 0 := rfl
            omega
        · have hk0 : k1 = 0 := by have := Decidable.of_not_not hze; omega
          rw [hfe hk0, hp1]; exact ⟨by omega, by omega⟩
        · have hk0 : k1 = 0 := by have := Decidable.of_not_not hze; omega
          rw [hfe hk0, hp1] at hge
          have hlq := congrArg List.length hR
          rw [List.length_drop, List.length_append] at hlq
          have hnext : L.drop (q + L1.length) = flat es := by
            rw [← List.drop_drop, hR, List.drop_left]
          have hpt : 1 ≤ (L1.length : Int) + (j - i) := by
            rcases a3 with ⟨-, b1, -⟩ | ⟨b0, b1, -⟩
            · have h8 := b1.size hG hT hD hV
              have := h8.1.rng hG hT hD
              omega
            · have := (((hD _ _ _).mp b1).rng hG hT).2.2.2.2 b0.1
              omega
          refine ih _ es (q + L1.length) (st + 1) (by omega) (by omega) (by omega) ((hf1.sS (by decide)).sS (by decide)) (a5.of es (fun z _ => ⟨rfl, rfl⟩)) ?_ ?_ hnext (by omega) (by omega)
          · show sW_waiting M1 - 1 = _
            omega
          · show sW_passed M1 + aT_firstLength M1 ((m * 11 + i) * 11 + j).toNat = _
            rw [hfe hk0, hp1]; omega
  refine b60 (g_m46 (by omega) (by omega) (by rw [hX.1]; omega) ?_)
  rw [hX.1]
  refine b55 ⟨fun g => absurd (show (256 : Int) ≤ 0 from g) (by omega), fun _ => ⟨by show (0 : Int) ≤ 0 ∧ (0 : Int) < 256; omega, by show (0 : Int) ≤ 0 ∧ (0 : Int) < 256; omega, by show tm_iI ((0 : Int) + 1); exact ⟨by omega, by omega⟩, b55_40 ?_⟩⟩
  refine key (pot [(0, 0, n, k, L)]).toNat _ [(0, 0, n, k, L)] 0 0 (by omega) (by omega) ?_ ?_ ⟨?_, ?_, Or.inl ⟨by show (0 : Int) < 6; omega, hTR, ?_⟩, hk, trivial⟩ rfl rfl ?_ (by omega) (by omega)
  · show (0 : Int) + ((L.length : Int) + (n - 0) + 0) ≤ 466954
    omega
  · exact ((((fr.refl.sS (by decide)).sS (by decide)).sA (by decide)).sA (by decide)).sS (by decide)
  · show (ev_sA (ev_sS (ev_sS M 9 0) 8 0) 28 0 ((0 * 11 + 0) * 11 + n)).2 28 0 = (0 * 11 + 0) * 11 + n
    exact sA_same
  · show (ev_sA (ev_sA (ev_sS (ev_sS M 9 0) 8 0) 28 0 ((0 * 11 + 0) * 11 + n)) 29 0 (k : Int)).2 29 0 = (k : Int)
    exact sA_same
  · show ((0 : Nat) : Int) + 3 * (ρ 0 0 n + 1) + 1 ≤ 199
    omega
  · show L = L ++ []
    rw [List.append_nil]
theorem g_m61 {Q : Int → ev_M → Prop} {k : Nat} {L : List Int} (hG : okG G) (hT : okT n w) (hD : isD G n w T) (hC : isC G M) (hX : isX n w M) (hF : FI G n T (usd G n T) ρ M) (hk : k < 1000000000) (hTR : TR G n T (vC M) 0 0 n k L) (h : ∀ M' : ev_M, fr [8, 9] wkA M M' → Q (L.length : Int) M') : m61 (k : Int) M Q := by
  have hV := hF.VF hG hT hD
  have hzL := hTR.size hG hT hD hV
  have hn := hT.1
  have hr0 := hzL.1.rng hG hT hD
  have hρ0 := (hV.2.2.2.2 _ _ _ hzL.1).1
  have hLb : (L.length : Int) ≤ 466944 := by
    have := szB_le (l := n - 0) (p := ρ 0 0 n - 6 * (n - 0)) (by omega) (by omega)
    omega
  refine b61 (g_m60 hG hT hD hC hX hF hk ⟨by omega, by omega⟩ hTR (fun hlt => by omega) (fun _ M1 hf1 hp1 => ?_))
  rw [hp1]
  exact h M1 hf1
end FD
