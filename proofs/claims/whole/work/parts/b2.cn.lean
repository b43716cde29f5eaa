/-! The class's forest: counting a node -/
/-- the first tree of a node with rule r: its length -/
def ffR (G : gT) (v : Int → Int → Int → Nat) (fl : Int → Int → Int → Int) (m f t : Int) (L : Int) : Prop := ∃ r L' : Int, (0 ≤ r ∧ r < gn G) ∧ gl G r = m ∧ rw' G v r t (gz G r).toNat (gz G r).toNat f ≠ 0 ∧ (∀ r' : Int, 0 ≤ r' → r' < r → gl G r' = m → rw' G v r' t (gz G r').toNat (gz G r').toNat f = 0) ∧ sfR G v fl r t (gz G r).toNat (gz G r).toNat f L' ∧ L = 1 + L'
/-- the trees of the rules before r -/
def rsum (G : gT) (v : Int → Int → Int → Nat) (m f t : Int) (N : Nat) : Nat := sumN (fun q => if (q : Int) < gn G ∧ gl G q = m then rw' G v q t (gz G q).toNat (gz G q).toNat f else 0) N
section CN
variable {G : gT} {n : Int} {w : Int → Int} {T : Int → Int → Int → Bool} {v : Int → Int → Int → Nat} {m f t r : Int} {M M' : ev_M}
theorem rsum_step {r : Int} (r0 : 0 ≤ r) (r1 : r < gn G) : rsum G v m f t (r + 1).toNat = rsum G v m f t r.toNat + (if gl G r = m then rw' G v r t (gz G r).toNat (gz G r).toNat f else 0) := by
  unfold rsum
  rw [show (r + 1).toNat = r.toNat + 1 by omega]
  show _ + (if ((r.toNat : Nat) : Int) < gn G ∧ gl G ((r.toNat : Nat) : Int) = m then rw' G v ((r.toNat : Nat) : Int) t (gz G ((r.toNat : Nat) : Int)).toNat (gz G ((r.toNat : Nat) : Int)).toNat f else 0) = _
  rw [show ((r.toNat : Nat) : Int) = r by omega]
  by_cases e : gl G r = m
  · rw [if_pos ⟨r1, e⟩, if_pos e]
  · rw [if_neg (fun h => e h.2), if_neg e]
theorem rsum_all (hG : okG G) (hf : 0 ≤ f ∧ f ≤ t ∧ t ≤ 10) (hv : ∀ x p e : Int, v x p e ≠ 0 → p ≤ e) : rsum G v m f t (gn G).toNat = sumN (wt G v m f t) 18634 := by
  have gc := hG.1
  rw [show (18634 : Nat) = 14 * 1331 from rfl, node_sum hG hf hv 14]
  exact (sumN_skip (by omega) (fun q q0 q1 => if_neg (fun h => by omega))).symm
theorem vC.of {M1 M2 : ev_M} (e : M2.2 21 = M1.2 21) : vC M2 = vC M1 := by
  funext x p q
  unfold vC
  simp only [aT_count]
  rw [e]
theorem g_m51 {Q : ev_M → Prop} (hG : okG G) (hC : isC G M) (hR : tR' M) (hv : ∀ x p e : Int, vC M x p e ≠ 0 → p ≤ e) (hfl : ∀ x p e : Int, vC M x p e ≠ 0 → 0 ≤ fC' M x p e ∧ fC' M x p e ≤ 500000) (hm : 0 ≤ m ∧ m < 6) (hf : 0 ≤ f ∧ f ≤ t ∧ t ≤ 10) (hz0 : vC M m f t = 0)
    (h : ∀ M' : ev_M, fr [] [21, 22, 23, 24] M M' → (∀ k : Nat, k ≠ ((m * 11 + f) * 11 + t).toNat → aT_count M' k = aT_count M k ∧ aT_firstLength M' k = aT_firstLength M k) → aT_count M' ((m * 11 + f) * 11 + t).toNat = ((min (sumN (wt G (vC M) m f t) 18634) 1000000000 : Nat) : Int) → (sumN (wt G (vC M) m f t) 18634 ≠ 0 → ffR G (vC M) (fC' M) m f t (aT_firstLength M' ((m * 11 + f) * 11 + t).toNat)) → Q M') : m51 m f t M Q := by
  have gc := hG.1
  refine b51 (g_m46 (by omega) (by omega) (by omega) ?_)
  refine lp (σ := Int × ev_M) (n := gn G) (c := fun r s => c51_14 m f t ((m * 11 + f) * 11 + t) s.1 r s.2 Q) (P := fun r s => fr [] [22, 23, 24] M s.2 ∧ (∀ k : Nat, k ≠ ((m * 11 + f) * 11 + t).toNat → aT_firstLength s.2 k = aT_firstLength M k) ∧ s.1 = ((min (rsum G (vC M) m f t r.toNat) 1000000000 : Nat) : Int) ∧ (rsum G (vC M) m f t r.toNat ≠ 0 → ffR G (vC M) (fC' M) m f t (aT_firstLength s.2 ((m * 11 + f) * 11 + t).toNat)) ∧ (rsum G (vC M) m f t r.toNat = 0 → ∀ r' : Int, 0 ≤ r' → r' < r → gl G r' = m → rw' G (vC M) r' t (gz G r').toNat (gz G r').toNat f = 0)) ?_ ?_ (r := 0) (s := (0, M)) (by omega) gc.1 ⟨fr.refl, fun _ _ => rfl, rfl, fun h => absurd rfl h, fun _ r' a1 a2 => by omega⟩
  · rintro r ⟨S, M1⟩ r0 r1 ⟨hf1, hfl1, hS, hF, hZ⟩ ih
    dsimp only at hf1 hfl1 hS hF hZ ih ⊢
    have hC1 : isC G M1 := hC.of (hf1.1 3 (by decide)) (hf1.2 2 (by decide)) (hf1.2 3 (by decide)) (hf1.2 4 (by decide))
    have e3 := hC1.1
    have el : aG_left M1 r.toNat = gl G r := (hC1.2 r r0 r1).1
    have hst := rsum_step (G := G) (v := vC M) (m := m) (f := f) (t := t) r0 r1
    obtain ⟨A, hA⟩ : ∃ A : Nat, A = rsum G (vC M) m f t r.toNat := ⟨_, rfl⟩
    rw [← hA] at hS hF hZ hst
    have hAle := Nat.min_le_right A 1000000000
    -- the sum, once the rule is weighed
    have add : ∀ (X : Nat) (M2 : ev_M), X = (if gl G r = m then rw' G (vC M) r t (gz G r).toNat (gz G r).toNat f else 0) → fr [] [22, 23, 24] M M2 → (∀ k : Nat, k ≠ ((m * 11 + f) * 11 + t).toNat → aT_firstLength M2 k = aT_firstLength M k) → (A + X ≠ 0 → ffR G (vC M) (fC' M) m f t (aT_firstLength M2 ((m * 11 + f) * 11 + t).toNat)) → c51_83 m f t ((m * 11 + f) * 11 + t) S r ((min X 1000000000 : Nat) : Int) M2 Q := by
      intro X M2 hX hf2 hfl2 hF2
      have hXle := Nat.min_le_right X 1000000000
      rw [hS]
      have ei : ((min A 1000000000 : Nat) : Int) + ((min X 1000000000 : Nat) : Int) = ((min A 1000000000 + min X 1000000000 : Nat) : Int) := by omega
      refine b51_83 ⟨⟨by omega, by omega⟩, ?_⟩
      rw [ei]
      refine g_m49 ⟨⟨by omega, by omega⟩, ih (_, M2) ⟨hf2, hfl2, ?_, ?_, fun h0 r' a1 a2 a3 => ?_⟩⟩
      · show ((min (min A 1000000000 + min X 1000000000) 1000000000 : Nat) : Int) = _
        rw [hst, ← hX]; omega
      · rw [hst, ← hX]; exact hF2
      · rw [hst, ← hX] at h0
        by_cases e : r' = r
        · subst e
          rw [if_pos a3] at hX
          omega
        · exact hZ (by omega) r' a1 (by omega) a3
    refine b51_14 ⟨fun g => absurd g (by omega), fun _ => ⟨⟨r0, by omega⟩, ?_⟩⟩
    rw [el]
    refine ⟨fun hne => ?_, fun heq => ?_⟩
    · have := add 0 M1 (by rw [if_neg hne]) hf1 hfl1 (by rw [Nat.add_zero]; exact hF)
      exact b51_52 ⟨fun _ => this, fun _ => ⟨fun _ => this, fun g => absurd (by omega) g⟩⟩
    · have hl : gl G r = m := Decidable.of_not_not heq
      have ev : vC M1 = vC M := vC.of (hf1.2 21 (by decide))
      have hR1 : tR' M1 := by
        intro k hk
        show 0 ≤ M1.2 21 k ∧ M1.2 21 k ≤ 1000000000
        rw [hf1.2 21 (by decide)]; exact hR k hk
      -- firstLength of the node itself is not read
      have efl : ∀ x p e : Int, vC M x p e ≠ 0 → fC' M1 x p e = fC' M x p e := by
        intro x p e hne
        refine hfl1 _ (fun hk => hne ?_)
        unfold vC at hne ⊢
        by_cases hr : (0 ≤ x ∧ x < 10) ∧ (0 ≤ p ∧ p ≤ 10) ∧ (0 ≤ e ∧ e ≤ 10)
        · have e1 : x = m := by omega
          have e2 : p = f := by omega
          have e3 : e = t := by omega
          subst e1; subst e2; subst e3
          exact hz0
        · rw [if_neg hr]
      have sfE : ∀ (k : Nat) (p L : Int), sfR G (vC M) (fC' M1) r t (gz G r).toNat k p L → sfR G (vC M) (fC' M) r t (gz G r).toNat k p L := by
        intro k
        induction k with
        | zero => intro p L hL; exact hL
        | succ k ihk =>
          rintro p L ⟨e, L', a1, a2, a3, a4, a5⟩
          refine ⟨e, L', a1, a2, a3, ihk e L' a4, ?_⟩
          rw [a5, efl _ _ _ (fun h0 => a1 (by rw [h0, Nat.zero_mul]))]
      refine g_m50 hG hC1 hR1 (by rw [ev]; exact hv) (fun x p e hne => by rw [ev] at hne; rw [efl x p e hne]; exact hfl x p e hne) ⟨r0, r1⟩ hf (fun M2 hf2 hW => ?_)
      rw [ev] at hW ⊢
      obtain ⟨X, hX⟩ : ∃ X : Nat, X = rw' G (vC M) r t (gz G r).toNat (gz G r).toNat f := ⟨_, rfl⟩
      rw [← hX]
      have hf2' : fr [] [22, 23, 24] M M2 := hf1.trans (hf2.mono (by decide) (by decide))
      have e22 : M2.2 22 = M1.2 22 := hf2.2 22 (by decide)
      have hfl2 : ∀ k : Nat, k ≠ ((m * 11 + f) * 11 + t).toNat → aT_firstLength M2 k = aT_firstLength M k := fun k hk => (congrFun e22 k).trans (hfl1 k hk)
      have eX : X = (if gl G r = m then rw' G (vC M) r t (gz G r).toNat (gz G r).toNat f else 0) := by rw [if_pos hl]; exact hX
      refine b51_52 ⟨fun hS0 => add X M2 eX hf2' hfl2 (fun _ => ?_), fun hS0 => ⟨fun hX0 => add X M2 eX hf2' hfl2 (fun hne => ?_), fun hX1 => ?_⟩⟩
      · have : aT_firstLength M2 ((m * 11 + f) * 11 + t).toNat = aT_firstLength M1 ((m * 11 + f) * 11 + t).toNat := congrFun e22 _
        rw [this]
        exact hF (fun h0 => hS0 (by rw [hS, h0]; rfl))
      · have : aT_firstLength M2 ((m * 11 + f) * 11 + t).toNat = aT_firstLength M1 ((m * 11 + f) * 11 + t).toNat := congrFun e22 _
        rw [this]
        exact hF (by omega)
      · have hA0 : A = 0 := by
          have h1 : S = 0 := Decidable.of_not_not hS0
          rw [h1] at hS; omega
        have hXn : X ≠ 0 := by omega
        have g2 := (hG.2 r r0 r1).2.1
        have hw := (hW 0 f (by omega) g2.1 (Int.le_refl _) hf.2.1).2
        rw [show 0 * 11 + f = f by omega, show (gz G r).toNat - (0 : Int).toNat = (gz G r).toNat by omega] at hw
        have hsf := sfE _ _ _ (hw (by rw [← hX]; exact hXn))
        have hb := sfR_le (B := 500000) hfl _ _ _ hsf
        have hk4 : (((gz G r).toNat : Nat) : Int) ≤ 4 := by omega
        refine ⟨⟨by omega, by omega⟩, ⟨by omega, by omega⟩, ⟨by omega, by omega⟩, add X _ eX (hf2'.sA (by decide)) (fun k hk => ?_) (fun _ => ?_)⟩
        · show (ev_sA M2 22 ((m * 11 + f) * 11 + t).toNat _).2 22 k = _
          rw [sA_ne hk]
          exact hfl2 k hk
        · show ffR G (vC M) (fC' M) m f t ((ev_sA M2 22 ((m * 11 + f) * 11 + t).toNat _).2 22 ((m * 11 + f) * 11 + t).toNat)
          rw [sA_same]
          exact ⟨r, _, ⟨r0, r1⟩, hl, by rw [← hX]; exact hXn, hZ hA0, hsf, rfl⟩
  · rintro ⟨S, M1⟩ ⟨hf1, hfl1, hS, hF, hZ⟩
    dsimp only at hf1 hfl1 hS hF hZ ⊢
    have e3 : sG_count M1 = gn G := (hf1.1 3 (by decide)).trans hC.1
    rw [rsum_all hG hf hv] at hS hF
    have hle := Nat.min_le_right (sumN (wt G (vC M) m f t) 18634) 1000000000
    refine b51_14 ⟨fun _ => ⟨⟨by omega, by omega⟩, ⟨by omega, by omega⟩, h _ ((hf1.mono (by decide) (by decide)).sA (by decide)) (fun k hk => ⟨?_, hfl1 k hk⟩) ?_ hF⟩, fun g => absurd (by omega) g⟩
    · show (ev_sA M1 21 ((m * 11 + f) * 11 + t).toNat S).2 21 k = _
      rw [sA_ne hk]
      exact congrFun (hf1.2 21 (by decide)) k
    · show (ev_sA M1 21 ((m * 11 + f) * 11 + t).toNat S).2 21 ((m * 11 + f) * 11 + t).toNat = _
      rw [sA_same]
      exact hS
end CN
