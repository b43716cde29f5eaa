/-! The states as a pure value, and the class's build -/
/-- position j = 10 * state + symbol of the build: the kernel that it leads to, the answer, the number of states before and behind -/
def auS (G : gT) (j : Int) (K go cn : Int → Int) : Prop := (1 ≤ cn j ∧ j / 10 < cn j ∧ cn j ≤ 60) ∧ ∃ y : Int, mvd G (K (j / 10)) (j % 10) y ∧ ((y = 0 ∧ go j = -1 ∧ cn (j + 1) = cn j) ∨ (y ≠ 0 ∧ (0 ≤ go j ∧ go j ≤ cn j) ∧ K (go j) = y ∧ (∀ p : Int, 0 ≤ p → p < go j → K p ≠ y) ∧ cn (j + 1) = (if go j = cn j then cn j + 1 else cn j)))
/-- the build, done before position i -/
def auP (G : gT) (i : Int) (K go cn : Int → Int) : Prop := (cn 0 = 1 ∧ K 0 = 72057594037927936) ∧ (∀ j : Int, 0 ≤ j → j ≤ i → cn j ≤ cn i) ∧ (∀ q : Int, 0 ≤ q → q < cn i → kOK G (K q)) ∧ ∀ j : Int, 0 ≤ j → j < i → auS G j K go cn
/-- the build ends with c states -/
def auE (G : gT) (c : Int) (K go : Int → Int) : Prop := ∃ cn : Int → Int, auP G (10 * c) K go cn ∧ cn (10 * c) = c ∧ 1 ≤ c ∧ c ≤ 60
/-- the build wants a 61st state -/
def auF (G : gT) : Prop := ∃ (K go cn : Int → Int) (i y : Int), auP G i K go cn ∧ 0 ≤ i ∧ i / 10 < 60 ∧ cn i = 60 ∧ mvd G (K (i / 10)) (i % 10) y ∧ y ≠ 0 ∧ ∀ p : Int, 0 ≤ p → p < 60 → K p ≠ y
section AP
variable {G : gT} {M : ev_M} {i : Int} {K go cn K' go' cn' : Int → Int}
theorem auP.ext (h : auP G i K go cn) (hi : 0 ≤ i) (hK : ∀ q : Int, 0 ≤ q → q < cn i → K' q = K q) (hg : ∀ j : Int, 0 ≤ j → j < i → go' j = go j) (hc : ∀ j : Int, 0 ≤ j → j ≤ i → cn' j = cn j) (hc1 : cn i ≤ cn' (i + 1)) (hko : ∀ q : Int, cn i ≤ q → q < cn' (i + 1) → kOK G (K' q)) (hs : auS G i K' go' cn') : auP G (i + 1) K' go' cn' := by
  obtain ⟨⟨h1, h2⟩, h3, h4, h5⟩ := h
  have h30 := h3 0 (by omega) hi
  refine ⟨⟨by rw [hc 0 (by omega) hi]; exact h1, by rw [hK 0 (by omega) (by omega)]; exact h2⟩, fun j j0 j1 => ?_, fun q q0 q1 => ?_, fun j j0 j1 => ?_⟩
  · by_cases e : j = i + 1
    · subst e; omega
    · rw [hc j j0 (by omega)]
      have := h3 j j0 (by omega)
      omega
  · by_cases e : q < cn i
    · rw [hK q q0 e]; exact h4 q q0 e
    · exact hko q (by omega) q1
  · by_cases e : j = i
    · subst e; exact hs
    · have j2 : j < i := by omega
      obtain ⟨⟨a1, a2, a3⟩, y, a4, a5⟩ := h5 j j0 j2
      have m1 := h3 j j0 (by omega)
      have m2 := h3 (j + 1) (by omega) (by omega)
      refine ⟨by rw [hc j j0 (by omega)]; exact ⟨a1, a2, a3⟩, y, by rw [hK _ (by omega) (by omega)]; exact a4, ?_⟩
      rw [hc j j0 (by omega), hc (j + 1) (by omega) (by omega), hg j j0 j2]
      rcases a5 with a5 | ⟨b1, b2, b3, b4, b5⟩
      · exact Or.inl a5
      · have lt : go j < cn i := by
          by_cases e2 : go j = cn j
          · rw [if_pos e2] at b5; omega
          · omega
        refine Or.inr ⟨b1, b2, by rw [hK _ b2.1 lt]; exact b3, fun p p0 p1 => by rw [hK p p0 (by omega)]; exact b4 p p0 p1, b5⟩
/-- the class's memory in the midst of the build -/
def auJ (G : gT) (M : ev_M) (i : Int) (M' : ev_M) : Prop := fr [4] [6, 7, 8, 9] M M' ∧ ∃ cn : Int → Int, cn i = sA_count M' ∧ auP G i (fun q => aA_kernel M' q.toNat) (fun j => aA_goal M' j.toNat) cn
/-- the rows of makers awaited of the states before s -/
def awJ (G : gT) (s : Int) (M' : ev_M) : Prop := ∀ q : Int, 0 ≤ q → q < s → awq G (aA_kernel M' q.toNat) (aA_awaited M' q.toNat)
theorem g_m19 {Q : Int → ev_M → Prop} (hG : okG G) (hI : isC G M) (h1 : ∀ M' : ev_M, fr [4] [6, 7, 8, 9] M M' → auE G (sA_count M') (fun q => aA_kernel M' q.toNat) (fun j => aA_goal M' j.toNat) → awJ G (sA_count M') M' → Q 1 M') (h0 : ∀ M' : ev_M, fr [4] [6, 7, 8, 9] M M' → auF G → Q 0 M') : m19 M Q := by
  refine b19 ?_
  have fin : ∀ (s : Int) (M1 : ev_M), auJ G M (10 * s) M1 → awJ G s M1 → 0 ≤ s → sA_count M1 = s → s ≤ 60 → c19_106 M1 Q := by
    intro s M1 hJ hw s0 hs s60
    obtain ⟨hf, cn, hc, hp⟩ := hJ
    subst hs
    have := hp.2.1 0 (by omega) (by omega)
    rw [hp.1.1] at this
    exact b19_106 (h1 M1 hf ⟨cn, hp, hc, by omega, s60⟩ hw)
  refine lp (σ := ev_M) (n := 60) (c := fun s M1 => c19_16 s M1 Q) (P := fun s M1 => auJ G M (10 * s) M1 ∧ awJ G s M1 ∧ s ≤ sA_count M1 ∧ sA_count M1 ≤ 60) ?_ ?_ (by omega) (by omega) ⟨⟨(fr.refl.sA (by decide)).sS (by decide), fun _ => 1, rfl, ⟨⟨rfl, ?_⟩, fun _ _ _ => Int.le_refl _, fun q q0 q1 => ?_, fun j j0 j1 => by omega⟩⟩, fun q q0 q1 => by omega, by show (0 : Int) ≤ 1; omega, by show (1 : Int) ≤ 60; omega⟩
  · intro s M1 s0 s1 hP ih
    obtain ⟨hJ, hw, hs, h60⟩ := hP
    refine b19_16 ⟨fun g => fin s M1 hJ hw s0 (by omega) (by omega), fun g => ⟨fun g => absurd g (by omega), fun _ => ?_⟩⟩
    obtain ⟨hf, cn, hc, hp⟩ := hJ
    have hI1 : isC G M1 := hI.of (hf.1 3 (by decide)) (hf.2 2 (by decide)) (hf.2 3 (by decide)) (hf.2 4 (by decide))
    have hks := hp.2.2.1 s s0 (by omega)
    refine g_m16 hG hI1 ⟨s0, s1⟩ hks (fun a a0 a1 haw => ?_)
    have eK : ∀ q : Nat, aA_kernel (ev_sA M1 7 s.toNat a) q = aA_kernel M1 q := fun _ => rfl
    have haw2 : awq G (aA_kernel (ev_sA M1 7 s.toNat a) s.toNat) (aA_awaited (ev_sA M1 7 s.toNat a) s.toNat) := by
      show awq G _ ((ev_sA M1 7 s.toNat a).2 7 s.toNat)
      rw [sA_same]
      exact ⟨⟨a0, a1⟩, haw⟩
    refine g_m17 hG (hI1.of rfl rfl rfl rfl) ⟨s0, s1⟩ hks haw2 (fun M2 hf2 hmv => ?_)
    have hfa : fr [4] [6, 7, 8, 9] M (ev_sA M1 7 s.toNat a) := hf.sA (by decide)
    have hf3 : fr [4] [6, 7, 8, 9] M M2 := hfa.trans (hf2.mono (by decide) (by decide))
    have k6 : M2.2 6 = M1.2 6 := hf2.2 6 (by decide)
    have k7 : M2.2 7 = (ev_sA M1 7 s.toNat a).2 7 := hf2.2 7 (by decide)
    have k8 : M2.2 8 = M1.2 8 := hf2.2 8 (by decide)
    have k4 : M2.1 4 = M1.1 4 := hf2.1 4 (by decide)
    refine lp (σ := ev_M) (n := 10) (c := fun x M3 => c19_42 s x M3 Q) (P := fun x M3 => auJ G M (10 * s + x) M3 ∧ awJ G (s + 1) M3 ∧ s < sA_count M3 ∧ sA_count M3 ≤ 60 ∧ M3.2 9 = M2.2 9 ∧ aA_kernel M3 s.toNat = aA_kernel M1 s.toNat) ?_ ?_ (by omega) (by omega) ⟨⟨hf3, cn, ?_, ?_⟩, ?_, ?_, ?_, rfl, congrFun k6 _⟩
    · intro x M3 x0 x1 hP ih2
      obtain ⟨⟨hf4, cn, hc, hp⟩, hw, hs3, h603, k9, ks⟩ := hP
      have hmx : mvd G (aA_kernel M3 s.toNat) x (aA_moved M3 x.toNat) := by
        have e9 : aA_moved M3 x.toNat = aA_moved M2 x.toNat := congrFun k9 _
        rw [ks, e9]
        exact hmv x x0 x1
      have ed : (10 * s + x) / 10 = s := by omega
      have em : (10 * s + x) % 10 = x := by omega
      have hc1 : 1 ≤ cn (10 * s + x) := by omega
      -- the write of the goal, and on
      have go : ∀ (t : Int) (M4 : ev_M), fr [4] [6, 7, 8, 9] M M4 → M4.2 7 = M3.2 7 → M4.2 8 = M3.2 8 → M4.2 9 = M3.2 9 → (∀ q : Int, 0 ≤ q → q < sA_count M3 → aA_kernel M4 q.toNat = aA_kernel M3 q.toNat) → sA_count M3 ≤ sA_count M4 → sA_count M4 ≤ 60 → t ≠ 60 → ((aA_moved M3 x.toNat = 0 ∧ t = -1 ∧ sA_count M4 = sA_count M3) ∨ (aA_moved M3 x.toNat ≠ 0 ∧ (0 ≤ t ∧ t ≤ sA_count M3) ∧ aA_kernel M4 t.toNat = aA_moved M3 x.toNat ∧ (∀ p : Int, 0 ≤ p → p < t → aA_kernel M4 p.toNat ≠ aA_moved M3 x.toNat) ∧ sA_count M4 = (if t = sA_count M3 then sA_count M3 + 1 else sA_count M3))) → c19_73 s x t M4 Q := by
        intro t M4 hf5 j7 j8 j9 jK jc j60 t60 hcase
        obtain ⟨cn', c0, c1⟩ : ∃ cn' : Int → Int, (∀ j : Int, j ≤ 10 * s + x → cn' j = cn j) ∧ cn' (10 * s + x + 1) = sA_count M4 := ⟨fun j => if j = 10 * s + x + 1 then sA_count M4 else cn j, fun j hj => if_neg (by omega), if_pos rfl⟩
        refine b19_73 ⟨fun _ => ⟨⟨by omega, by omega⟩, ⟨by omega, by omega⟩, ⟨by omega, by omega⟩, ⟨by omega, by omega⟩, ih2 _ ⟨⟨hf5.sA (by decide), cn', ?_, ?_⟩, ?_, ?_, j60, ?_, ?_⟩⟩, fun g => absurd t60 g⟩
        · rw [show 10 * s + (x + 1) = 10 * s + x + 1 by omega, c1]
          rfl
        · rw [show 10 * s + (x + 1) = 10 * s + x + 1 by omega]
          refine auP.ext hp (by omega) (fun q q0 q1 => jK q q0 (by omega)) (fun j j0 j1 => ?_) (fun j j0 j1 => c0 j (by omega)) ?_ (fun q q0 q1 => ?_) ?_
          · show (ev_sA M4 8 (s * 10 + x).toNat t).2 8 j.toNat = M3.2 8 j.toNat
            rw [sA_ne (by omega), j8]
          · rw [c1, hc]; exact jc
          · have q1' : q < sA_count M4 := by rw [c1] at q1; exact q1
            rw [hc] at q0
            rcases hcase with ⟨-, -, e⟩ | ⟨-, ht, e2, -, e⟩
            · omega
            · by_cases et : t = sA_count M3
              · rw [if_pos et] at e
                have eq : q = t := by omega
                show kOK G (aA_kernel M4 q.toNat)
                rw [eq, e2]
                exact hmx.ok hG
              · rw [if_neg et] at e; omega
          · unfold auS
            rw [c0 _ (Int.le_refl _), c1, hc, ed, em]
            refine ⟨⟨by omega, by omega, by omega⟩, aA_moved M3 x.toNat, ?_, ?_⟩
            · show mvd G (aA_kernel M4 s.toNat) x _
              rw [jK s s0 (by omega)]
              exact hmx
            · have eg : aA_goal (ev_sA M4 8 (s * 10 + x).toNat t) (10 * s + x).toNat = t := by
                show (ev_sA M4 8 (s * 10 + x).toNat t).2 8 (10 * s + x).toNat = t
                rw [show (10 * s + x) = s * 10 + x by omega]
                exact sA_same
              show ((aA_moved M3 x.toNat = 0 ∧ aA_goal (ev_sA M4 8 (s * 10 + x).toNat t) (10 * s + x).toNat = -1 ∧ _) ∨ (aA_moved M3 x.toNat ≠ 0 ∧ (0 ≤ aA_goal (ev_sA M4 8 (s * 10 + x).toNat t) (10 * s + x).toNat ∧ aA_goal (ev_sA M4 8 (s * 10 + x).toNat t) (10 * s + x).toNat ≤ _) ∧ aA_kernel M4 (aA_goal (ev_sA M4 8 (s * 10 + x).toNat t) (10 * s + x).toNat).toNat = _ ∧ (∀ p : Int, 0 ≤ p → p < aA_goal (ev_sA M4 8 (s * 10 + x).toNat t) (10 * s + x).toNat → aA_kernel M4 p.toNat ≠ _) ∧ _ = (if aA_goal (ev_sA M4 8 (s * 10 + x).toNat t) (10 * s + x).toNat = _ then _ else _)))
              rw [eg]
              exact hcase
        · intro q q0 q1
          have := hw q q0 q1
          show awq G (aA_kernel M4 q.toNat) (M4.2 7 q.toNat)
          rw [jK q q0 (by omega), j7]
          exact this
        · show s < sA_count M4
          omega
        · show M4.2 9 = M2.2 9
          rw [j9, k9]
        · show aA_kernel M4 s.toNat = _
          rw [jK s s0 (by omega), ks]
      refine b19_42 ⟨fun g => absurd g (by omega), fun _ => ⟨⟨x0, x1⟩, fun g => ⟨⟨x0, x1⟩, g_m18 ⟨by omega, h603⟩ (fun q q0 q1 q2 q3 => ?_) (fun q1 q2 => ?_) (fun q1 q2 => ?_)⟩, fun g => go (-1) M3 hf4 rfl rfl rfl (fun _ _ _ => rfl) (Int.le_refl _) h603 (by omega) (Or.inl ⟨Decidable.of_not_not g, rfl, rfl⟩)⟩⟩
      · refine go q M3 hf4 rfl rfl rfl (fun _ _ _ => rfl) (Int.le_refl _) h603 (by omega) (Or.inr ⟨g, ⟨q0, by omega⟩, q2, q3, ?_⟩)
        rw [if_neg (by omega)]
      · have ek : ∀ q : Int, 0 ≤ q → q < sA_count M3 → aA_kernel (ev_sS (ev_sA M3 6 (sA_count M3).toNat (aA_moved M3 x.toNat)) 4 (sA_count M3 + 1)) q.toNat = aA_kernel M3 q.toNat := by
          intro q q0 q1
          show (ev_sA M3 6 (sA_count M3).toNat (aA_moved M3 x.toNat)).2 6 q.toNat = _
          exact sA_ne (by omega)
        refine go (sA_count M3) _ ((hf4.sA (by decide)).sS (by decide)) rfl rfl rfl ek (by show sA_count M3 ≤ sA_count M3 + 1; omega) (by show sA_count M3 + 1 ≤ 60; omega) (by omega) (Or.inr ⟨g, ⟨by omega, Int.le_refl _⟩, ?_, fun p p0 p1 => ?_, ?_⟩)
        · show (ev_sA M3 6 (sA_count M3).toNat (aA_moved M3 x.toNat)).2 6 (sA_count M3).toNat = _
          exact sA_same
        · rw [ek p p0 p1]
          exact q1 p p0 p1
        · rw [if_pos rfl]; rfl
      · refine b19_73 ⟨fun g => absurd rfl g, fun _ => h0 M3 hf4 ⟨_, _, cn, 10 * s + x, aA_moved M3 x.toNat, hp, by omega, by omega, by omega, ?_, g, fun p p0 p1 => q1 p p0 (by omega)⟩⟩
        rw [ed, em]
        exact hmx
    · intro M3 hP
      obtain ⟨⟨hf4, hJ⟩, hw, hs3, h603, k9, ks⟩ := hP
      refine b19_42 ⟨fun _ => ⟨⟨by omega, by omega⟩, ih M3 ⟨⟨hf4, ?_⟩, hw, by omega, h603⟩⟩, fun g => absurd (by omega) g⟩
      rw [show 10 * (s + 1) = 10 * s + 10 by omega]
      exact hJ
    · show cn (10 * s + 0) = M2.1 4
      rw [k4, show 10 * s + 0 = 10 * s by omega]
      exact hc
    · rw [show 10 * s + 0 = 10 * s by omega]
      show auP G (10 * s) (fun q => M2.2 6 q.toNat) (fun j => M2.2 8 j.toNat) cn
      rw [k6, k8]
      exact hp
    · intro q q0 q1
      show awq G (M2.2 6 q.toNat) (M2.2 7 q.toNat)
      rw [k6, k7]
      by_cases e : q = s
      · rw [e]; exact haw2
      · show awq G (M1.2 6 q.toNat) ((ev_sA M1 7 s.toNat a).2 7 q.toNat)
        rw [sA_ne (by omega)]
        exact hw q q0 (by omega)
    · show s < M2.1 4
      rw [k4]
      have : sA_count M1 = M1.1 4 := rfl
      omega
    · show M2.1 4 ≤ 60
      rw [k4]
      exact h60
  · intro M1 hP
    obtain ⟨hJ, hw, hs, h60⟩ := hP
    refine b19_16 ⟨fun g => fin 60 M1 hJ hw (by omega) (by omega) (by omega), fun g => absurd (by omega) g⟩
  · show (ev_sA M 6 0 72057594037927936).2 6 0 = _
    exact sA_same
  · have q2 : q < 1 := q1
    have e : q = 0 := by omega
    rw [e]
    show kOK G ((ev_sA M 6 0 72057594037927936).2 6 0)
    rw [sA_same]
    exact kOK0
end AP
