/-! rule and clear, on both sides -/
theorem fr.drop {n : Nat} {S A : List Nat} {M M' : ev_M} (h : fr (n :: S) A M M') (e : M'.1 n = M.1 n) : fr S A M M' := by
  refine ⟨fun m hm => ?_, h.2⟩
  by_cases e2 : m = n
  · rw [e2]; exact e
  · exact h.1 m (fun hc => by
      rcases List.mem_cons.mp hc with hc | hc
      · exact e2 hc
      · exact hm hc)
/-- the grammar with a rule more -/
def gadd (G : gT) (x1 x2 x3 x4 x5 : Int) : gT := (gn G + 1, fun r => if r = gn G then x1 else gl G r, fun r => if r = gn G then rs4 x2 x3 x4 x5 else gz G r, fun r d => if r = gn G then (if d = 0 then x2 else if d = 1 then x3 else if d = 2 then x4 else x5) else gs G r d)
/-- two rules alike -/
def sameR (G : gT) (a b : Int) : Prop := gl G a = gl G b ∧ gz G a = gz G b ∧ ∀ i : Int, 0 ≤ i → i < gz G a → gs G a i = gs G b i
section GA2
variable {G : gT} {M : ev_M} {x1 x2 x3 x4 x5 a b r d : Int}
theorem gadd_n : gn (gadd G x1 x2 x3 x4 x5) = gn G + 1 := rfl
theorem gadd_l (h : r ≠ gn G) : gl (gadd G x1 x2 x3 x4 x5) r = gl G r := if_neg h
theorem gadd_z (h : r ≠ gn G) : gz (gadd G x1 x2 x3 x4 x5) r = gz G r := if_neg h
theorem gadd_s (h : r ≠ gn G) : gs (gadd G x1 x2 x3 x4 x5) r d = gs G r d := if_neg h
theorem gadd_l' : gl (gadd G x1 x2 x3 x4 x5) (gn G) = x1 := if_pos rfl
theorem gadd_z' : gz (gadd G x1 x2 x3 x4 x5) (gn G) = rs4 x2 x3 x4 x5 := if_pos rfl
theorem gadd_s' : gs (gadd G x1 x2 x3 x4 x5) (gn G) d = (if d = 0 then x2 else if d = 1 then x3 else if d = 2 then x4 else x5) := if_pos rfl
theorem okG_add (hG : okG G) (hn : gn G < 14) (h1 : 0 ≤ x1 ∧ x1 < 6) (hs : syR x2 x3 x4 x5) : okG (gadd G x1 x2 x3 x4 x5) := by
  have hz := rs4_le x2 x3 x4 x5
  refine ⟨by rw [gadd_n]; have := hG.1; omega, fun r r0 r1 => ?_⟩
  rw [gadd_n] at r1
  by_cases e : r = gn G
  · subst e
    rw [gadd_l', gadd_z']
    refine ⟨h1, hz, fun d d0 d1 => ?_⟩
    rw [gadd_s']
    rcases (by omega : d = 0 ∨ d = 1 ∨ d = 2 ∨ d = 3) with rfl | rfl | rfl | rfl
    · exact hs.1 (by omega)
    · exact hs.2.1 (by omega)
    · exact hs.2.2.1 (by omega)
    · exact hs.2.2.2 (by omega)
  · rw [gadd_l e, gadd_z e]
    have := hG.2 r r0 (by omega)
    refine ⟨this.1, this.2.1, fun d d0 d1 => ?_⟩
    rw [gadd_s e]
    exact this.2.2 d d0 d1
theorem isC_add (hG : okG G) (hI : isC G M) : isC (gadd G x1 x2 x3 x4 x5) (ev_sS (WG M x1 x2 x3 x4 x5) 3 (sG_count M + 1)) := by
  have hn := hG.1
  have hc := hI.1
  have hz := rs4_le x2 x3 x4 x5
  refine ⟨by show sG_count M + 1 = gn G + 1; omega, fun r r0 r1 => ?_⟩
  rw [gadd_n] at r1
  obtain ⟨e0, e1, e2, e3⟩ := WG_gR (M := M) (x1 := x1) (x2 := x2) (x3 := x3) (x4 := x4) (x5 := x5) (by omega)
  by_cases e : r = gn G
  · subst e
    rw [gadd_l', gadd_z', ← hc]
    refine ⟨WG_left (x2 := x2) (x3 := x3) (x4 := x4) (x5 := x5), WG_size (x1 := x1), fun d d0 d1 => ?_⟩
    rw [hc, gadd_s', ← hc]
    rcases (by omega : d = 0 ∨ d = 1 ∨ d = 2 ∨ d = 3) with rfl | rfl | rfl | rfl
    · exact e0
    · exact e1
    · exact e2
    · exact e3
  · rw [gadd_l e, gadd_z e]
    obtain ⟨f1, f2, f3⟩ := hI.2 r r0 (by omega)
    have g := (hG.2 r r0 (by omega)).2.1
    refine ⟨(WG_left' (x1 := x1) (x2 := x2) (x3 := x3) (x4 := x4) (x5 := x5) ⟨r0, by omega⟩).trans f1, (WG_size' (x1 := x1) (x2 := x2) (x3 := x3) (x4 := x4) (x5 := x5) ⟨r0, by omega⟩).trans f2, fun d d0 d1 => ?_⟩
    rw [gadd_s e]
    exact (WG_gR' (x1 := x1) (x2 := x2) (x3 := x3) (x4 := x4) (x5 := x5) (by omega) ⟨r0, by omega⟩ ⟨d0, by omega⟩).trans (f3 d d0 d1)
theorem isC_keep (hG : okG G) (hI : isC G M) : isC G (WG M x1 x2 x3 x4 x5) := by
  have hn := hG.1
  have hc := hI.1
  refine ⟨hc, fun r r0 r1 => ?_⟩
  obtain ⟨f1, f2, f3⟩ := hI.2 r r0 r1
  have g := (hG.2 r r0 r1).2.1
  exact ⟨(WG_left' (x1 := x1) (x2 := x2) (x3 := x3) (x4 := x4) (x5 := x5) ⟨r0, by omega⟩).trans f1, (WG_size' (x1 := x1) (x2 := x2) (x3 := x3) (x4 := x4) (x5 := x5) ⟨r0, by omega⟩).trans f2, fun d d0 d1 => (WG_gR' (x1 := x1) (x2 := x2) (x3 := x3) (x4 := x4) (x5 := x5) (by omega) ⟨r0, by omega⟩ ⟨d0, by omega⟩).trans (f3 d d0 d1)⟩
theorem isM_add (hG : okG G) (hI : isM G M) : isM (gadd G x1 x2 x3 x4 x5) (ev_sS (WM M x1 x2 x3 x4 x5) 11 (sM_rules M + 1)) := by
  have hn := hG.1
  have hc := hI.1
  have hz := rs4_le x2 x3 x4 x5
  refine ⟨by show sM_rules M + 1 = gn G + 1; omega, fun r r0 r1 => ?_⟩
  rw [gadd_n] at r1
  obtain ⟨e0, e1, e2, e3⟩ := WM_mR (M := M) (x1 := x1) (x2 := x2) (x3 := x3) (x4 := x4) (x5 := x5) (by omega)
  by_cases e : r = gn G
  · subst e
    rw [gadd_l', gadd_z', ← hc]
    refine ⟨WM_left (x2 := x2) (x3 := x3) (x4 := x4) (x5 := x5), WM_size (x1 := x1), fun d d0 d1 => ?_⟩
    rw [hc, gadd_s', ← hc]
    rcases (by omega : d = 0 ∨ d = 1 ∨ d = 2 ∨ d = 3) with rfl | rfl | rfl | rfl
    · exact e0
    · exact e1
    · exact e2
    · exact e3
  · rw [gadd_l e, gadd_z e]
    obtain ⟨f1, f2, f3⟩ := hI.2 r r0 (by omega)
    have g := (hG.2 r r0 (by omega)).2.1
    refine ⟨(WM_left' (x1 := x1) (x2 := x2) (x3 := x3) (x4 := x4) (x5 := x5) ⟨r0, by omega⟩).trans f1, (WM_size' (x1 := x1) (x2 := x2) (x3 := x3) (x4 := x4) (x5 := x5) ⟨r0, by omega⟩).trans f2, fun d d0 d1 => ?_⟩
    rw [gadd_s e]
    exact (WM_mR' (x1 := x1) (x2 := x2) (x3 := x3) (x4 := x4) (x5 := x5) ⟨r0, by omega⟩ ⟨d0, by omega⟩).trans (f3 d d0 d1)
theorem isM_keep (hG : okG G) (hI : isM G M) : isM G (WM M x1 x2 x3 x4 x5) := by
  have hn := hG.1
  have hc := hI.1
  refine ⟨hc, fun r r0 r1 => ?_⟩
  obtain ⟨f1, f2, f3⟩ := hI.2 r r0 r1
  have g := (hG.2 r r0 r1).2.1
  exact ⟨(WM_left' (x1 := x1) (x2 := x2) (x3 := x3) (x4 := x4) (x5 := x5) ⟨r0, by omega⟩).trans f1, (WM_size' (x1 := x1) (x2 := x2) (x3 := x3) (x4 := x4) (x5 := x5) ⟨r0, by omega⟩).trans f2, fun d d0 d1 => (WM_mR' (x1 := x1) (x2 := x2) (x3 := x3) (x4 := x4) (x5 := x5) ⟨r0, by omega⟩ ⟨d0, by omega⟩).trans (f3 d d0 d1)⟩
theorem isC_drop (hI : isC (gadd G x1 x2 x3 x4 x5) M) {c : Int} (hc : c = gn G) : isC G (ev_sS M 3 c) := by
  refine ⟨hc, fun r r0 r1 => ?_⟩
  obtain ⟨f1, f2, f3⟩ := hI.2 r r0 (by rw [gadd_n]; omega)
  rw [gadd_l (by omega)] at f1
  rw [gadd_z (by omega)] at f2 f3
  refine ⟨f1, f2, fun d d0 d1 => ?_⟩
  have := f3 d d0 d1
  rw [gadd_s (by omega)] at this
  exact this
theorem isM_drop (hI : isM (gadd G x1 x2 x3 x4 x5) M) {c : Int} (hc : c = gn G) : isM G (ev_sS M 11 c) := by
  refine ⟨hc, fun r r0 r1 => ?_⟩
  obtain ⟨f1, f2, f3⟩ := hI.2 r r0 (by rw [gadd_n]; omega)
  rw [gadd_l (by omega)] at f1
  rw [gadd_z (by omega)] at f2 f3
  refine ⟨f1, f2, fun d d0 d1 => ?_⟩
  have := f3 d d0 d1
  rw [gadd_s (by omega)] at this
  exact this
theorem sameG_iff (hI : isC G M) (ha : 0 ≤ a ∧ a < gn G) (hb : 0 ≤ b ∧ b < gn G) : sameG M a b ↔ sameR G a b := by
  obtain ⟨a1, a2, a3⟩ := hI.2 a ha.1 ha.2
  obtain ⟨b1, b2, b3⟩ := hI.2 b hb.1 hb.2
  unfold sameG sameR
  rw [a1, a2, b1, b2]
  constructor
  · rintro ⟨h1, h2, h3⟩
    exact ⟨h1, h2, fun i i0 i1 => by rw [← a3 i i0 i1, ← b3 i i0 (by omega)]; exact h3 i i0 i1⟩
  · rintro ⟨h1, h2, h3⟩
    exact ⟨h1, h2, fun i i0 i1 => by rw [a3 i i0 i1, b3 i i0 (by omega)]; exact h3 i i0 i1⟩
theorem sameM_iff (hI : isM G M) (ha : 0 ≤ a ∧ a < gn G) (hb : 0 ≤ b ∧ b < gn G) : sameM M a b ↔ sameR G a b := by
  obtain ⟨a1, a2, a3⟩ := hI.2 a ha.1 ha.2
  obtain ⟨b1, b2, b3⟩ := hI.2 b hb.1 hb.2
  unfold sameM sameR
  rw [a1, a2, b1, b2]
  constructor
  · rintro ⟨h1, h2, h3⟩
    exact ⟨h1, h2, fun i i0 i1 => by rw [← a3 i i0 i1, ← b3 i i0 (by omega)]; exact h3 i i0 (by omega)⟩
  · rintro ⟨h1, h2, h3⟩
    exact ⟨h1, h2, fun i i0 i1 => by rw [a3 i i0 (by omega), b3 i i0 (by omega)]; exact h3 i i0 (by omega)⟩
/-- the class's word on a new rule -/
theorem okR_iff (hG : okG G) (hI : isC G M) : okR M x1 x2 x3 x4 x5 ↔ (syR x2 x3 x4 x5 ∧ ∀ k : Int, 0 ≤ k → k < gn G → ¬ sameR (gadd G x1 x2 x3 x4 x5) k (gn G)) := by
  have hc := hI.1
  have hn := hG.1
  unfold okR
  rw [← sy_iff (x1 := x1) (by omega)]
  refine and_congr Iff.rfl ⟨fun h k k0 k1 hs => h k k0 (by omega) ?_, fun h k k0 k1 hs => h k k0 (by omega) ?_⟩
  · have := (sameG_iff (isC_add (x1 := x1) (x2 := x2) (x3 := x3) (x4 := x4) (x5 := x5) hG hI) (a := k) (b := gn G) ⟨k0, by rw [gadd_n]; omega⟩ ⟨hn.1, by rw [gadd_n]; omega⟩).mpr hs
    rw [hc]
    exact this
  · rw [hc] at hs
    exact (sameG_iff (isC_add (x1 := x1) (x2 := x2) (x3 := x3) (x4 := x4) (x5 := x5) hG hI) (a := k) (b := gn G) ⟨k0, by rw [gadd_n]; omega⟩ ⟨hn.1, by rw [gadd_n]; omega⟩).mp hs
theorem WG_fr : fr [] [2, 3, 4] M (WG M x1 x2 x3 x4 x5) := (((((fr.refl.sA (by decide)).sA (by decide)).sA (by decide)).sA (by decide)).sA (by decide)).sA (by decide)
theorem WM_fr : fr [] [31, 32, 33] M (WM M x1 x2 x3 x4 x5) := (((((fr.refl.sA (by decide)).sA (by decide)).sA (by decide)).sA (by decide)).sA (by decide)).sA (by decide)
end GA2
