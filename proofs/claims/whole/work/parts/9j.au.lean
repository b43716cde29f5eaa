/-! The build has one outcome -/
section AU2
variable {G : gT} {K go cn K' go' cn' : Int → Int} {i i' c c' : Int}
theorem auP.uniq (h1 : auP G i K go cn) (h2 : auP G i' K' go' cn') : ∀ n : Nat, (n : Int) ≤ i → (n : Int) ≤ i' → cn' n = cn n ∧ (∀ q : Int, 0 ≤ q → q < cn n → K' q = K q) ∧ ∀ t : Int, 0 ≤ t → t < n → go' t = go t := by
  intro n
  induction n with
  | zero =>
    intro _ _
    have e1 : cn ((0 : Nat) : Int) = 1 := h1.1.1
    have e2 : cn' ((0 : Nat) : Int) = 1 := h2.1.1
    refine ⟨by rw [e1, e2], fun q q0 q1 => ?_, fun t t0 t1 => by omega⟩
    have e : q = 0 := by omega
    rw [e, h1.1.2, h2.1.2]
  | succ n ih =>
    intro hi hi'
    obtain ⟨ic, iK, ig⟩ := ih (by omega) (by omega)
    obtain ⟨⟨a1, a2, a3⟩, y, a4, a5⟩ := h1.2.2.2 n (by omega) (by omega)
    obtain ⟨⟨b1, b2, b3⟩, y', b4, b5⟩ := h2.2.2.2 n (by omega) (by omega)
    rw [iK _ (by omega) a2] at b4
    have ey : y' = y := b4.uniq a4
    subst ey
    rw [ic] at b5
    have en : ((n + 1 : Nat) : Int) = (n : Int) + 1 := by omega
    rw [en]
    rcases a5 with ⟨u1, u2, u3⟩ | ⟨u1, u2, u3, u4, u5⟩
    · rcases b5 with ⟨v1, v2, v3⟩ | ⟨v1, -⟩
      · rw [u3, v3]
        refine ⟨rfl, iK, fun t t0 t1 => ?_⟩
        by_cases e : t = n
        · rw [e, u2, v2]
        · exact ig t t0 (by omega)
      · exact absurd u1 v1
    · rcases b5 with ⟨v1, -⟩ | ⟨v1, v2, v3, v4, v5⟩
      · exact absurd v1 u1
      · have eg : go' n = go n := by
          have l1 : ¬ go n < go' n := fun hl => v4 _ u2.1 hl (by rw [iK _ u2.1 (by omega)]; exact u3)
          have l2 : ¬ go' n < go n := fun hl => u4 _ v2.1 hl (by rw [← iK _ v2.1 (by omega)]; exact v3)
          omega
        rw [eg] at v5 v3
        rw [v5, u5]
        refine ⟨rfl, fun q q0 q1 => ?_, fun t t0 t1 => ?_⟩
        · by_cases e : q < cn n
          · exact iK q q0 e
          · by_cases e2 : go n = cn n
            · rw [if_pos e2] at q1
              have e3 : q = go n := by omega
              rw [e3, u3, v3]
            · rw [if_neg e2] at q1; exact absurd q1 e
        · by_cases e : t = n
          · rw [e]; exact eg
          · exact ig t t0 (by omega)
theorem auE.le (h1 : auE G c K go) (h2 : auE G c' K' go') (hle : c ≤ c') : c = c' ∧ (∀ q : Int, 0 ≤ q → q < c → K' q = K q) ∧ ∀ t : Int, 0 ≤ t → t < 10 * c → go' t = go t := by
  obtain ⟨cn, p1, e1, l1, -⟩ := h1
  obtain ⟨cn', p2, e2, l2, -⟩ := h2
  have hn : (((10 * c).toNat : Nat) : Int) = 10 * c := by omega
  obtain ⟨u1, u2, u3⟩ := p1.uniq p2 (10 * c).toNat (by omega) (by omega)
  rw [hn, e1] at u1 u2
  rw [hn] at u3
  refine ⟨?_, u2, u3⟩
  by_cases e : c = c'
  · exact e
  · have := (p2.2.2.2 (10 * c) (by omega) (by omega)).1
    omega
theorem auE.uniq (h1 : auE G c K go) (h2 : auE G c' K' go') : c = c' ∧ (∀ q : Int, 0 ≤ q → q < c → K' q = K q) ∧ ∀ t : Int, 0 ≤ t → t < 10 * c → go' t = go t := by
  by_cases hle : c ≤ c'
  · exact h1.le h2 hle
  · obtain ⟨a, b, d⟩ := h2.le h1 (by omega)
    omega
theorem auE.notF (h1 : auE G c K go) (h2 : auF G) : False := by
  obtain ⟨cn, p1, e1, l1, l60⟩ := h1
  obtain ⟨K', go', cn', i, y, p2, i0, i60, ec, hm, hy, hno⟩ := h2
  have hle : i < 10 * c := by
    refine Decidable.byContradiction (fun hn => ?_)
    have hn2 : (((10 * c).toNat : Nat) : Int) = 10 * c := by omega
    obtain ⟨u1, -, -⟩ := p1.uniq p2 (10 * c).toNat (by omega) (by omega)
    rw [hn2, e1] at u1
    by_cases e : i = 10 * c
    · rw [e] at ec i60; omega
    · have := (p2.2.2.2 (10 * c) (by omega) (by omega)).1
      omega
  have hn2 : ((i.toNat : Nat) : Int) = i := by omega
  obtain ⟨u1, u2, -⟩ := p1.uniq p2 i.toNat (by omega) (by omega)
  rw [hn2] at u1 u2
  obtain ⟨⟨a1, a2, a3⟩, y', a4, a5⟩ := p1.2.2.2 i i0 hle
  rw [u2 _ (by omega) a2] at hm
  have ey : y = y' := hm.uniq a4
  subst ey
  rcases a5 with ⟨v1, -⟩ | ⟨v1, v2, v3, v4, v5⟩
  · exact hy v1
  · by_cases e : go i = cn i
    · rw [if_pos e] at v5
      have := p1.2.1 (i + 1) (by omega) (by omega)
      omega
    · refine hno _ v2.1 (by omega) ?_
      rw [u2 _ v2.1 (by omega)]
      exact v3
end AU2
/-! Both automata -/
def AUT (G : gT) (M : ev_M) : Prop := okG G ∧ isC G M ∧ isM G M ∧ auE G (sA_count M) (fun q => aA_kernel M q.toNat) (fun j => aA_goal M j.toNat) ∧ awJ G (sA_count M) M ∧ sM_states M = sA_count M ∧ (∀ q : Int, 0 ≤ q → q < sA_count M → rep G (aA_kernel M q.toNat) (aM_low M q.toNat) (aM_high M q.toNat)) ∧ ∀ i : Int, 0 ≤ i → i < 10 * sA_count M → aM_ways M i.toNat = aA_goal M i.toNat
section AUTS
variable {G : gT} {M M' : ev_M} {S A : List Nat}
theorem AUT.IA (h : AUT G M) : IA M := by
  obtain ⟨-, -, -, ⟨cn, -, -, c1, c60⟩, -, hs, -, hw⟩ := h
  refine ⟨c1, c60, hs, fun q a q0 q1 a0 a1 => ?_⟩
  rw [hw (10 * q + a) (by omega) (by omega), show 10 * q + a = q * 10 + a by omega]
theorem AUT.fr (h : AUT G M) (hf : fr S A M M') (hS : ∀ n ∈ [3, 4, 11, 13], n ∉ S) (hA : ∀ n ∈ [2, 3, 4, 6, 7, 8, 31, 32, 33, 35, 36, 37], n ∉ A) : AUT G M' := by
  have s3 := hf.1 3 (hS 3 (by decide))
  have s4 := hf.1 4 (hS 4 (by decide))
  have s11 := hf.1 11 (hS 11 (by decide))
  have s13 := hf.1 13 (hS 13 (by decide))
  have a2 := hf.2 2 (hA 2 (by decide))
  have a3 := hf.2 3 (hA 3 (by decide))
  have a4 := hf.2 4 (hA 4 (by decide))
  have a6 := hf.2 6 (hA 6 (by decide))
  have a7 := hf.2 7 (hA 7 (by decide))
  have a8 := hf.2 8 (hA 8 (by decide))
  have a31 := hf.2 31 (hA 31 (by decide))
  have a32 := hf.2 32 (hA 32 (by decide))
  have a33 := hf.2 33 (hA 33 (by decide))
  have a35 := hf.2 35 (hA 35 (by decide))
  have a36 := hf.2 36 (hA 36 (by decide))
  have a37 := hf.2 37 (hA 37 (by decide))
  obtain ⟨h1, h2, h3, h4⟩ := h
  refine ⟨h1, h2.of s3 a2 a3 a4, h3.of s11 a31 a32 a33, ?_⟩
  unfold awJ at h4 ⊢
  simp only [sA_count, sM_states, aA_kernel, aA_goal, aA_awaited, aM_low, aM_high, aM_ways] at h4 ⊢
  rw [s4, s13, a6, a7, a8, a35, a36, a37]
  exact h4
end AUTS
