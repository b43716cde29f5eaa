/-! Trees as rows of rules -/
/-- what is left of the number after the last k parts took their shares -/
def xq (G : gT) (v : Int → Int → Int → Nat) (r : Int) (u : Nat → Int) (z x : Nat) : Nat → Nat
  | 0 => x
  | k + 1 => xq G v r u z x k / v (gs G r ((z - (k + 1) : Nat) : Int)) (u (z - (k + 1))) (u (z - (k + 1) + 1))
/-- the share of part d -/
def shr (G : gT) (v : Int → Int → Int → Nat) (r : Int) (u : Nat → Int) (z x d : Nat) : Nat := xq G v r u z x (z - (d + 1)) % v (gs G r (d : Int)) (u d) (u (d + 1))
def cat (Ls : Nat → List Int) : Nat → List Int
  | 0 => []
  | d + 1 => cat Ls d ++ Ls d
def TRc (G : gT) (n : Int) (T : Int → Int → Int → Bool) (v : Int → Int → Int → Nat) (X : Int → Int → Int → Nat → List Int → Prop) : Prop := ∀ (m i j : Int) (k : Nat) (r : Int) (u : Nat → Int) (Ls : Nat → List Int), usd G n T m i j → (0 ≤ r ∧ r < gn G) → gl G r = m → cuts G T r i j u → sumN (wt G v m i j) (cdu G r j u).toNat ≤ k → k < sumN (wt G v m i j) (cdu G r j u).toNat + rkB G v r u (gz G r).toNat → (∀ d : Nat, d < (gz G r).toNat → (6 ≤ gs G r (d : Int) → Ls d = []) ∧ (gs G r (d : Int) < 6 → X (gs G r (d : Int)) (u d) (u (d + 1)) (shr G v r u (gz G r).toNat (k - sumN (wt G v m i j) (cdu G r j u).toNat) d) (Ls d))) → X m i j k (r :: cat Ls (gz G r).toNat)
/-- tree k of the node has the rules L, from left to right -/
def TR (G : gT) (n : Int) (T : Int → Int → Int → Bool) (v : Int → Int → Int → Nat) (m i j : Int) (k : Nat) (L : List Int) : Prop := ∀ X : Int → Int → Int → Nat → List Int → Prop, TRc G n T v X → X m i j k L
section TRS
variable {G : gT} {n : Int} {w : Int → Int} {T : Int → Int → Int → Bool} {v : Int → Int → Int → Nat} {m i j r f t : Int} {k : Nat} {L : List Int} {u u' : Nat → Int}
theorem TR.mk : TRc G n T v (TR G n T v) := by
  intro m i j k r u Ls h1 h2 h3 h4 h5 h6 h7 X hX
  exact hX m i j k r u Ls h1 h2 h3 h4 h5 h6 (fun d hd => ⟨(h7 d hd).1, fun h8 => (h7 d hd).2 h8 X hX⟩)
theorem TR.inv (h : TR G n T v m i j k L) : ∃ (r : Int) (u : Nat → Int) (Ls : Nat → List Int), usd G n T m i j ∧ (0 ≤ r ∧ r < gn G) ∧ gl G r = m ∧ cuts G T r i j u ∧ sumN (wt G v m i j) (cdu G r j u).toNat ≤ k ∧ k < sumN (wt G v m i j) (cdu G r j u).toNat + rkB G v r u (gz G r).toNat ∧ (∀ d : Nat, d < (gz G r).toNat → (6 ≤ gs G r (d : Int) → Ls d = []) ∧ (gs G r (d : Int) < 6 → TR G n T v (gs G r (d : Int)) (u d) (u (d + 1)) (shr G v r u (gz G r).toNat (k - sumN (wt G v m i j) (cdu G r j u).toNat) d) (Ls d))) ∧ L = r :: cat Ls (gz G r).toNat := by
  have key : TR G n T v m i j k L ∧ ∃ (r : Int) (u : Nat → Int) (Ls : Nat → List Int), usd G n T m i j ∧ (0 ≤ r ∧ r < gn G) ∧ gl G r = m ∧ cuts G T r i j u ∧ sumN (wt G v m i j) (cdu G r j u).toNat ≤ k ∧ k < sumN (wt G v m i j) (cdu G r j u).toNat + rkB G v r u (gz G r).toNat ∧ (∀ d : Nat, d < (gz G r).toNat → (6 ≤ gs G r (d : Int) → Ls d = []) ∧ (gs G r (d : Int) < 6 → TR G n T v (gs G r (d : Int)) (u d) (u (d + 1)) (shr G v r u (gz G r).toNat (k - sumN (wt G v m i j) (cdu G r j u).toNat) d) (Ls d))) ∧ L = r :: cat Ls (gz G r).toNat := by
    refine h (fun m i j k L => TR G n T v m i j k L ∧ ∃ (r : Int) (u : Nat → Int) (Ls : Nat → List Int), usd G n T m i j ∧ (0 ≤ r ∧ r < gn G) ∧ gl G r = m ∧ cuts G T r i j u ∧ sumN (wt G v m i j) (cdu G r j u).toNat ≤ k ∧ k < sumN (wt G v m i j) (cdu G r j u).toNat + rkB G v r u (gz G r).toNat ∧ (∀ d : Nat, d < (gz G r).toNat → (6 ≤ gs G r (d : Int) → Ls d = []) ∧ (gs G r (d : Int) < 6 → TR G n T v (gs G r (d : Int)) (u d) (u (d + 1)) (shr G v r u (gz G r).toNat (k - sumN (wt G v m i j) (cdu G r j u).toNat) d) (Ls d))) ∧ L = r :: cat Ls (gz G r).toNat) ?_
    intro m i j k r u Ls h1 h2 h3 h4 h5 h6 h7
    have h8 : ∀ d : Nat, d < (gz G r).toNat → (6 ≤ gs G r (d : Int) → Ls d = []) ∧ (gs G r (d : Int) < 6 → TR G n T v (gs G r (d : Int)) (u d) (u (d + 1)) (shr G v r u (gz G r).toNat (k - sumN (wt G v m i j) (cdu G r j u).toNat) d) (Ls d)) := fun d hd => ⟨(h7 d hd).1, fun hh => ((h7 d hd).2 hh).1⟩
    exact ⟨TR.mk m i j k r u Ls h1 h2 h3 h4 h5 h6 h8, r, u, Ls, h1, h2, h3, h4, h5, h6, h8, rfl⟩
  exact key.2
theorem sum_find {F : Nat → Nat} : ∀ N : Nat, k < sumN F N → ∃ q : Nat, q < N ∧ sumN F q ≤ k ∧ k < sumN F q + F q := by
  intro N
  induction N with
  | zero => intro h; exact absurd h (by show ¬ k < 0; omega)
  | succ N ih =>
    intro h
    by_cases h1 : k < sumN F N
    · obtain ⟨q, a1, a2, a3⟩ := ih h1
      exact ⟨q, by omega, a2, a3⟩
    · exact ⟨N, by omega, by omega, h⟩
theorem pos_uniq {F : Nat → Nat} {q q' : Nat} (a1 : sumN F q ≤ k) (a2 : k < sumN F q + F q) (b1 : sumN F q' ≤ k) (b2 : k < sumN F q' + F q') : q = q' := by
  have step : ∀ a : Nat, sumN F (a + 1) = sumN F a + F a := fun _ => rfl
  rcases (by omega : q < q' ∨ q = q' ∨ q' < q) with h | h | h
  · have := sumN_mono (f := F) (show q + 1 ≤ q' by omega)
    rw [step] at this; omega
  · exact h
  · have := sumN_mono (f := F) (show q' + 1 ≤ q by omega)
    rw [step] at this; omega
theorem cdu_rng (hG : okG G) (hT : okT n w) (hD : isD G n w T) (hft : 0 ≤ f ∧ f ≤ t ∧ t ≤ 10) (hr : 0 ≤ r ∧ r < gn G) (hc : cuts G T r f t u) : 0 ≤ cdu G r t u ∧ cdu G r t u < 18634 := by
  obtain ⟨hF, -⟩ := isF_of (m := gl G r) hG hT hD hr rfl hc
  have := hF.1.rng hG hft
  clear hF
  unfold cdu
  omega
/-- cuts with the same code are the same -/
theorem cdu_inj (hG : okG G) (hT : okT n w) (hD : isD G n w T) {r' : Int} (hft : 0 ≤ f ∧ f ≤ t ∧ t ≤ 10) (hr : 0 ≤ r ∧ r < gn G) (hr' : 0 ≤ r' ∧ r' < gn G) (hc : cuts G T r f t u) (hc' : cuts G T r' f t u') (h : cdu G r t u = cdu G r' t u') : r = r' ∧ ∀ d : Nat, d ≤ (gz G r).toNat → u d = u' d := by
  obtain ⟨hF, -⟩ := isF_of (m := gl G r) hG hT hD hr rfl hc
  obtain ⟨hF', -⟩ := isF_of (m := gl G r') hG hT hD hr' rfl hc'
  have g1 := hF.1.rng hG hft
  have g2 := hF'.1.rng hG hft
  have g := (hG.2 r hr.1 hr.2).2.1
  clear hF hF'
  unfold cdu at h
  have e : r = r' := by omega
  subst e
  have e1 : (if 2 ≤ gz G r then u 1 else t) = (if 2 ≤ gz G r then u' 1 else t) := by omega
  have e2 : (if 3 ≤ gz G r then u 2 else t) = (if 3 ≤ gz G r then u' 2 else t) := by omega
  have e3 : (if 4 ≤ gz G r then u 3 else t) = (if 4 ≤ gz G r then u' 3 else t) := by omega
  refine ⟨rfl, fun d hd => ?_⟩
  by_cases ez : d = (gz G r).toNat
  · rw [ez, hc.2.1, hc'.2.1]
  · rcases (by omega : d = 0 ∨ d = 1 ∨ d = 2 ∨ d = 3) with rfl | rfl | rfl | rfl
    · rw [hc.1, hc'.1]
    · rw [if_pos (by omega), if_pos (by omega)] at e1; exact e1
    · rw [if_pos (by omega), if_pos (by omega)] at e2; exact e2
    · rw [if_pos (by omega), if_pos (by omega)] at e3; exact e3
theorem wt_cdu (hG : okG G) (hT : okT n w) (hD : isD G n w T) (hft : 0 ≤ f ∧ f ≤ t ∧ t ≤ 10) (hr : 0 ≤ r ∧ r < gn G) (hl : gl G r = m) (hc : cuts G T r f t u) : wt G v m f t (cdu G r t u).toNat = rkB G v r u (gz G r).toNat := by
  obtain ⟨hF, -⟩ := isF_of hG hT hD hr hl hc
  rw [← rkB_pw hG hT hD hr hl hc]
  exact wt_at hG hft hF.1
/-- a code with weight is a family's -/
theorem cuts_code (hG : okG G) (hT : okT n w) (hD : isD G n w T) (hon : onT T v) {q : Nat} (hq : wt G v m f t q ≠ 0) : ∃ (r : Int) (u : Nat → Int), (0 ≤ r ∧ r < gn G) ∧ gl G r = m ∧ cuts G T r f t u ∧ cdu G r t u = (q : Int) := by
  have hF : isF G T m f t ((q / 1331 : Nat) : Int) ((q / 121 % 11 : Nat) : Int) ((q / 11 % 11 : Nat) : Int) ((q % 11 : Nat) : Int) := by
    refine Decidable.byContradiction (fun hn => hq (wt_no hon hn))
  have hcu := cuts_of hG hF
  have g := (hG.2 _ hF.1.1.1 hF.1.1.2).2.1
  refine ⟨_, _, hF.1.1, hF.1.2.1, hcu, ?_⟩
  obtain ⟨-, -, v3, v4, v5, v6, v7, v8⟩ := hF.1
  unfold cdu
  have e1 : (if 2 ≤ gz G ((q / 1331 : Nat) : Int) then (if ((1 : Nat) : Int) < gz G ((q / 1331 : Nat) : Int) then pf f ((q / 121 % 11 : Nat) : Int) ((q / 11 % 11 : Nat) : Int) ((q % 11 : Nat) : Int) ((1 : Nat) : Int) else t) else t) = ((q / 121 % 11 : Nat) : Int) := by
    by_cases e : 2 ≤ gz G ((q / 1331 : Nat) : Int)
    · rw [if_pos e, if_pos (by omega)]; rfl
    · rw [if_neg e]; exact (v3 (by omega)).symm
  have e2 : (if 3 ≤ gz G ((q / 1331 : Nat) : Int) then (if ((2 : Nat) : Int) < gz G ((q / 1331 : Nat) : Int) then pf f ((q / 121 % 11 : Nat) : Int) ((q / 11 % 11 : Nat) : Int) ((q % 11 : Nat) : Int) ((2 : Nat) : Int) else t) else t) = ((q / 11 % 11 : Nat) : Int) := by
    by_cases e : 3 ≤ gz G ((q / 1331 : Nat) : Int)
    · rw [if_pos e, if_pos (by omega)]; rfl
    · rw [if_neg e]; exact (v5 (by omega)).symm
  have e3 : (if 4 ≤ gz G ((q / 1331 : Nat) : Int) then (if ((3 : Nat) : Int) < gz G ((q / 1331 : Nat) : Int) then pf f ((q / 121 % 11 : Nat) : Int) ((q / 11 % 11 : Nat) : Int) ((q % 11 : Nat) : Int) ((3 : Nat) : Int) else t) else t) = ((q % 11 : Nat) : Int) := by
    by_cases e : 4 ≤ gz G ((q / 1331 : Nat) : Int)
    · rw [if_pos e, if_pos (by omega)]; rfl
    · rw [if_neg e]; exact (v7 (by omega)).symm
  show 1331 * ((q / 1331 : Nat) : Int) + 121 * (if 2 ≤ gz G ((q / 1331 : Nat) : Int) then (if ((1 : Nat) : Int) < gz G ((q / 1331 : Nat) : Int) then pf f ((q / 121 % 11 : Nat) : Int) ((q / 11 % 11 : Nat) : Int) ((q % 11 : Nat) : Int) ((1 : Nat) : Int) else t) else t) + 11 * (if 3 ≤ gz G ((q / 1331 : Nat) : Int) then (if ((2 : Nat) : Int) < gz G ((q / 1331 : Nat) : Int) then pf f ((q / 121 % 11 : Nat) : Int) ((q / 11 % 11 : Nat) : Int) ((q % 11 : Nat) : Int) ((2 : Nat) : Int) else t) else t) + (if 4 ≤ gz G ((q / 1331 : Nat) : Int) then (if ((3 : Nat) : Int) < gz G ((q / 1331 : Nat) : Int) then pf f ((q / 121 % 11 : Nat) : Int) ((q / 11 % 11 : Nat) : Int) ((q % 11 : Nat) : Int) ((3 : Nat) : Int) else t) else t) = _
  rw [e1, e2, e3]
  exact dec_eq q
end TRS
