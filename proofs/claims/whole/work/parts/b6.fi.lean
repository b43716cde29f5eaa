/-! The class's forest: what is kept while the nodes are counted -/
def b0 (p : Int) : Int := if p ≤ 0 then 1 else if p = 1 then 5 else if p = 2 then 21 else if p = 3 then 85 else if p = 4 then 341 else 1365
/-- no tree of a part of this length, at this rank, has more rules -/
def szB (l p : Int) : Int := if l = 0 then b0 p else 4096 * (12 * (l - 1) + p + 1)
set_option maxHeartbeats 8000000 in
theorem sz4 {l p l1 l2 l3 l4 s1 s2 s3 s4 : Int} (hl : 1 ≤ l) (hp : 0 ≤ p) (h1 : 0 ≤ l1) (h2 : 0 ≤ l2) (h3 : 0 ≤ l3) (h4 : 0 ≤ l4) (hs : l1 + l2 + l3 + l4 = l)
    (c1 : (l1 = 0 → s1 ≤ 1365) ∧ (1 ≤ l1 → l1 < l → s1 ≤ 4096 * (12 * l1 - 6)) ∧ (l1 = l → s1 ≤ 4096 * (12 * (l - 1) + p)))
    (c2 : (l2 = 0 → s2 ≤ 1365) ∧ (1 ≤ l2 → l2 < l → s2 ≤ 4096 * (12 * l2 - 6)) ∧ (l2 = l → s2 ≤ 4096 * (12 * (l - 1) + p)))
    (c3 : (l3 = 0 → s3 ≤ 1365) ∧ (1 ≤ l3 → l3 < l → s3 ≤ 4096 * (12 * l3 - 6)) ∧ (l3 = l → s3 ≤ 4096 * (12 * (l - 1) + p)))
    (c4 : (l4 = 0 → s4 ≤ 1365) ∧ (1 ≤ l4 → l4 < l → s4 ≤ 4096 * (12 * l4 - 6)) ∧ (l4 = l → s4 ≤ 4096 * (12 * (l - 1) + p))) : 1 + (s1 + s2 + s3 + s4) ≤ 4096 * (12 * (l - 1) + p + 1) := by
  obtain ⟨a1, b1, d1⟩ := c1
  obtain ⟨a2, b2, d2⟩ := c2
  obtain ⟨a3, b3, d3⟩ := c3
  obtain ⟨a4, b4, d4⟩ := c4
  rcases (by omega : l1 = 0 ∨ l1 = l ∨ (1 ≤ l1 ∧ l1 < l)) with e1 | e1 | e1 <;> rcases (by omega : l2 = 0 ∨ l2 = l ∨ (1 ≤ l2 ∧ l2 < l)) with e2 | e2 | e2 <;> rcases (by omega : l3 = 0 ∨ l3 = l ∨ (1 ≤ l3 ∧ l3 < l)) with e3 | e3 | e3 <;> rcases (by omega : l4 = 0 ∨ l4 = l ∨ (1 ≤ l4 ∧ l4 < l)) with e4 | e4 | e4 <;> omega
section FI
variable {G : gT} {n : Int} {w : Int → Int} {T : Int → Int → Int → Bool} {v : Int → Int → Int → Nat} {m f t r : Int} {M M' : ev_M}
/-- a part of a family fits the bound -/
def ptB (l p ld sd : Int) : Prop := (ld = 0 → sd ≤ 1365) ∧ (1 ≤ ld → ld < l → sd ≤ 4096 * (12 * ld - 6)) ∧ (ld = l → sd ≤ 4096 * (12 * (l - 1) + p))
theorem b0_le (p : Int) : 1 ≤ b0 p ∧ b0 p ≤ 1365 := by
  unfold b0
  repeat' split
  all_goals omega
theorem b0_step {p : Int} (hp : 1 ≤ p ∧ p ≤ 5) : 1 + 4 * b0 (p - 1) = b0 p := by
  rcases (by omega : p = 1 ∨ p = 2 ∨ p = 3 ∨ p = 4 ∨ p = 5) with rfl | rfl | rfl | rfl | rfl <;> decide
theorem b0_mono {p q : Int} (h : p ≤ q) : b0 p ≤ b0 q := by
  unfold b0
  repeat' split
  all_goals omega
/-- the sum of the lengths of a family's parts -/
theorem fl_bound (hG : okG G) (hT : okT n w) (hD : isD G n w T) (hr : 0 ≤ r ∧ r < gn G) {u : Nat → Int} (hc : cuts G T r f t u) {fl : Int → Int → Int → Int} {p : Int} (hp : 0 ≤ p ∧ p ≤ 5) (ρ : Int → Int → Int → Int) (hρ : ∀ k : Nat, k < (gz G r).toNat → gs G r (k : Int) < 6 → (6 * (u (k + 1) - u k) ≤ ρ (gs G r (k : Int)) (u k) (u (k + 1)) ∧ ρ (gs G r (k : Int)) (u k) (u (k + 1)) ≤ 6 * (u (k + 1) - u k) + 5) ∧ ρ (gs G r (k : Int)) (u k) (u (k + 1)) < 6 * (t - f) + p ∧ fl (gs G r (k : Int)) (u k) (u (k + 1)) ≤ szB (u (k + 1) - u k) (ρ (gs G r (k : Int)) (u k) (u (k + 1)) - 6 * (u (k + 1) - u k))) (hw : ∀ k : Nat, k < (gz G r).toNat → 6 ≤ gs G r (k : Int) → fl (gs G r (k : Int)) (u k) (u (k + 1)) = 0) : 1 + flS G fl r u (gz G r).toNat ≤ szB (t - f) p := by
  have g := (hG.2 r hr.1 hr.2).2.1
  have hmo := hc.mono hG hT hD
  have hft : f ≤ t := by have := (hmo 0 (by omega)).2.1; rw [hc.1] at this; exact this
  have hwl : ∀ k : Nat, k < (gz G r).toNat → 6 ≤ gs G r (k : Int) → u (k + 1) = u k + 1 := by
    intro k hk h6
    exact ((((hD _ _ _).mp (hc.2.2 k hk)).rng hG hT).2.2.2.2 h6).1
  have hle : ∀ k : Nat, k < (gz G r).toNat → u k ≤ u (k + 1) := fun k hk => (((hD _ _ _).mp (hc.2.2 k hk)).rng hG hT).2.2.1
  by_cases hl : t - f = 0
  · -- an empty part
    unfold szB
    rw [if_pos hl]
    have hall : ∀ k : Nat, k ≤ (gz G r).toNat → u k = f := by
      intro k hk
      have := hmo k hk
      omega
    have hk : ∀ k : Nat, k < (gz G r).toNat → fl (gs G r (k : Int)) (u k) (u (k + 1)) ≤ b0 (p - 1) ∧ 1 ≤ p := by
      intro k hk
      have e1 := hall k (by omega)
      have e2 := hall (k + 1) (by omega)
      by_cases h6 : gs G r (k : Int) < 6
      · obtain ⟨a1, a2, a3⟩ := hρ k hk h6
        rw [e1, e2] at a1 a2 a3 ⊢
        rw [show f - f = 0 by omega] at a1 a3
        unfold szB at a3
        rw [if_pos rfl] at a3
        exact ⟨Int.le_trans a3 (b0_mono (by omega)), by omega⟩
      · have := hwl k hk (by omega)
        omega
    have hS : ∀ k : Nat, k ≤ (gz G r).toNat → flS G fl r u k ≤ b0 (p - 1) * k := by
      intro k
      induction k with
      | zero => intro _; show (0 : Int) ≤ _; omega
      | succ k ih =>
        intro hk2
        have h1 := ih (by omega)
        have h2 := (hk k (by omega)).1
        have e : b0 (p - 1) * ((k + 1 : Nat) : Int) = b0 (p - 1) * (k : Int) + b0 (p - 1) := by
          rw [Int.natCast_add, Int.mul_add]; omega
        show flS G fl r u k + _ ≤ _
        omega
    by_cases hz : (gz G r).toNat = 0
    · rw [hz]
      show 1 + 0 ≤ _
      have := b0_le p
      omega
    · have hp1 := (hk 0 (by omega)).2
      have h1 := hS _ (Nat.le_refl _)
      have h2 := b0_step (p := p) ⟨hp1, hp.2⟩
      have h3 := b0_le (p - 1)
      have h4 : b0 (p - 1) * ((gz G r).toNat : Int) ≤ b0 (p - 1) * 4 := Int.mul_le_mul_of_nonneg_left (by omega) (by omega)
      omega
  · -- a part with words
    unfold szB
    rw [if_neg hl]
    have hpt : ∀ k : Nat, k < (gz G r).toNat → ptB (t - f) p (u (k + 1) - u k) (fl (gs G r (k : Int)) (u k) (u (k + 1))) := by
      intro k hk
      have hlk := hle k hk
      by_cases h6 : gs G r (k : Int) < 6
      · obtain ⟨a1, a2, a3⟩ := hρ k hk h6
        unfold szB at a3
        by_cases e0 : u (k + 1) - u k = 0
        · rw [if_pos e0] at a3
          have := b0_le (ρ (gs G r (k : Int)) (u k) (u (k + 1)) - 6 * (u (k + 1) - u k))
          exact ⟨fun _ => by omega, fun h => by omega, fun h => by omega⟩
        · rw [if_neg e0] at a3
          exact ⟨fun h => absurd h e0, fun h1 h2 => by omega, fun h => by omega⟩
      · have e1 := hwl k hk (by omega)
        have e2 := hw k hk (by omega)
        rw [e2]
        exact ⟨fun h => by omega, fun h1 h2 => by omega, fun h => by omega⟩
    have pz : ptB (t - f) p 0 0 := ⟨fun _ => by omega, fun h => by omega, fun h => by omega⟩
    have hu0 := hc.1
    have huz := hc.2.1
    rcases (by omega : (gz G r).toNat = 0 ∨ (gz G r).toNat = 1 ∨ (gz G r).toNat = 2 ∨ (gz G r).toNat = 3 ∨ (gz G r).toNat = 4) with z | z | z | z | z
    · rw [z] at huz; omega
    · rw [z] at huz ⊢
      have l0 : u 0 ≤ u 1 := hle 0 (by omega)
      have p0 : ptB (t - f) p (u 1 - u 0) (fl (gs G r 0) (u 0) (u 1)) := hpt 0 (by omega)
      have := sz4 (l := t - f) (p := p) (by omega) hp.1 (by omega) (Int.le_refl 0) (Int.le_refl 0) (Int.le_refl 0) (by omega) p0 pz pz pz
      show 1 + (0 + fl (gs G r 0) (u 0) (u 1)) ≤ _
      omega
    · rw [z] at huz ⊢
      have l0 : u 0 ≤ u 1 := hle 0 (by omega)
      have l1 : u 1 ≤ u 2 := hle 1 (by omega)
      have p0 : ptB (t - f) p (u 1 - u 0) (fl (gs G r 0) (u 0) (u 1)) := hpt 0 (by omega)
      have p1 : ptB (t - f) p (u 2 - u 1) (fl (gs G r 1) (u 1) (u 2)) := hpt 1 (by omega)
      have := sz4 (l := t - f) (p := p) (by omega) hp.1 (by omega) (by omega) (Int.le_refl 0) (Int.le_refl 0) (by omega) p0 p1 pz pz
      show 1 + (0 + fl (gs G r 0) (u 0) (u 1) + fl (gs G r 1) (u 1) (u 2)) ≤ _
      omega
    · rw [z] at huz ⊢
      have l0 : u 0 ≤ u 1 := hle 0 (by omega)
      have l1 : u 1 ≤ u 2 := hle 1 (by omega)
      have l2 : u 2 ≤ u 3 := hle 2 (by omega)
      have p0 : ptB (t - f) p (u 1 - u 0) (fl (gs G r 0) (u 0) (u 1)) := hpt 0 (by omega)
      have p1 : ptB (t - f) p (u 2 - u 1) (fl (gs G r 1) (u 1) (u 2)) := hpt 1 (by omega)
      have p2 : ptB (t - f) p (u 3 - u 2) (fl (gs G r 2) (u 2) (u 3)) := hpt 2 (by omega)
      have := sz4 (l := t - f) (p := p) (by omega) hp.1 (by omega) (by omega) (by omega) (Int.le_refl 0) (by omega) p0 p1 p2 pz
      show 1 + (0 + fl (gs G r 0) (u 0) (u 1) + fl (gs G r 1) (u 1) (u 2) + fl (gs G r 2) (u 2) (u 3)) ≤ _
      omega
    · rw [z] at huz ⊢
      have l0 : u 0 ≤ u 1 := hle 0 (by omega)
      have l1 : u 1 ≤ u 2 := hle 1 (by omega)
      have l2 : u 2 ≤ u 3 := hle 2 (by omega)
      have l3 : u 3 ≤ u 4 := hle 3 (by omega)
      have p0 : ptB (t - f) p (u 1 - u 0) (fl (gs G r 0) (u 0) (u 1)) := hpt 0 (by omega)
      have p1 : ptB (t - f) p (u 2 - u 1) (fl (gs G r 1) (u 1) (u 2)) := hpt 1 (by omega)
      have p2 : ptB (t - f) p (u 3 - u 2) (fl (gs G r 2) (u 2) (u 3)) := hpt 2 (by omega)
      have p3 : ptB (t - f) p (u 4 - u 3) (fl (gs G r 3) (u 3) (u 4)) := hpt 3 (by omega)
      have := sz4 (l := t - f) (p := p) (by omega) hp.1 (by omega) (by omega) (by omega) (by omega) (by omega) p0 p1 p2 p3
      show 1 + (0 + fl (gs G r 0) (u 0) (u 1) + fl (gs G r 1) (u 1) (u 2) + fl (gs G r 2) (u 2) (u 3) + fl (gs G r 3) (u 3) (u 4)) ≤ _
      omega
theorem szB_le {l p : Int} (hl : 0 ≤ l ∧ l ≤ 10) (hp : 0 ≤ p ∧ p ≤ 5) : szB l p ≤ 466944 := by
  unfold szB
  split
  · have := b0_le p; omega
  · omega
/-- what the counted nodes K hold -/
def FI (G : gT) (n : Int) (T : Int → Int → Int → Bool) (K : Int → Int → Int → Prop) (ρ : Int → Int → Int → Int) (M : ev_M) : Prop := tR' M ∧ (∀ x p e : Int, 6 ≤ x → x < 10 → 0 ≤ p → p ≤ 10 → 0 ≤ e → e ≤ 10 → aT_count M ((x * 11 + p) * 11 + e).toNat = ((T x p e).toNat : Int) ∧ fC' M x p e = 0) ∧ (∀ m i j : Int, m < 6 → vC M m i j ≠ 0 → K m i j) ∧ (∀ m i j : Int, K m i j → usd G n T m i j) ∧ (∀ m i j : Int, K m i j → (6 * (j - i) ≤ ρ m i j ∧ ρ m i j ≤ 6 * (j - i) + 5) ∧ ∀ x p e : Int, kid G T m i j x p e → K x p e ∧ ρ x p e < ρ m i j) ∧ (∀ m i j : Int, K m i j → vC M m i j = min (sumN (wt G (vC M) m i j) 18634) 1000000000) ∧ ∀ m i j : Int, m < 6 → vC M m i j ≠ 0 → flE G T (vC M) (fC' M) m i j (fC' M m i j) ∧ 0 ≤ fC' M m i j ∧ fC' M m i j ≤ szB (j - i) (ρ m i j - 6 * (j - i))
theorem vC_cv (hG : okG G) (hT : okT n w) (hD : isD G n w T) (hR : tR' M) (hw : ∀ x p e : Int, 6 ≤ x → x < 10 → 0 ≤ p → p ≤ 10 → 0 ≤ e → e ≤ 10 → aT_count M ((x * 11 + p) * 11 + e).toNat = ((T x p e).toNat : Int) ∧ fC' M x p e = 0) : cv T (vC M) = vC M := by
  have hn := hT.1
  funext x p e
  unfold cv
  by_cases h6 : x < 6
  · rw [if_pos h6]
  · rw [if_neg h6]
    by_cases hr : (0 ≤ x ∧ x < 10) ∧ (0 ≤ p ∧ p ≤ 10) ∧ (0 ≤ e ∧ e ≤ 10)
    · have h1 := (hw x p e (by omega) hr.1.2 hr.2.1.1 hr.2.1.2 hr.2.2.1 hr.2.2.2).1
      rw [vC_at hR hr.1 hr.2.1 hr.2.2] at h1
      omega
    · unfold vC
      rw [if_neg hr]
      cases hc : T x p e with
      | false => rfl
      | true =>
        have := ((hD _ _ _).mp hc).rng hG hT
        exact absurd ⟨by omega, by omega, by omega⟩ hr
theorem FI.cvE {K : Int → Int → Int → Prop} {ρ : Int → Int → Int → Int} (hG : okG G) (hT : okT n w) (hD : isD G n w T) (h : FI G n T K ρ M) : cv T (vC M) = vC M := vC_cv hG hT hD h.1 h.2.1
theorem FI.ont {K : Int → Int → Int → Prop} {ρ : Int → Int → Int → Int} (hG : okG G) (hT : okT n w) (hD : isD G n w T) (h : FI G n T K ρ M) : onT T (vC M) := by
  rw [← h.cvE hG hT hD]
  refine cv_onT (fun x p e hne => ?_)
  by_cases h6 : x < 6
  · exact ((h.2.2.2.1 _ _ _ (h.2.2.1 x p e h6 hne)).rng hG hT hD).2.2
  · rw [← h.cvE hG hT hD] at hne
    unfold cv at hne
    rw [if_neg h6] at hne
    cases hc : T x p e with
    | true => rfl
    | false => rw [hc] at hne; exact absurd rfl hne
end FI
