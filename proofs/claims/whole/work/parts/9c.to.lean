/-! Tools: loops, frames, writes -/
theorem lp {σ : Type} {n : Int} {c P : Int → σ → Prop} (hs : ∀ (r : Int) (s : σ), 0 ≤ r → r < n → P r s → (∀ s', P (r + 1) s' → c (r + 1) s') → c r s) (he : ∀ s, P n s → c n s) {r : Int} {s : σ} (h0 : 0 ≤ r) (hn : r ≤ n) (h : P r s) : c r s := by
  have key : ∀ (k : Nat) (r : Int) (s : σ), n - r ≤ k → 0 ≤ r → r ≤ n → P r s → c r s := by
    intro k
    induction k with
    | zero =>
      intro r s hk h0 hn h
      have e : r = n := by omega
      subst e
      exact he s h
    | succ k ih =>
      intro r s hk h0 hn h
      by_cases e : r = n
      · subst e
        exact he s h
      · exact hs r s h0 (by omega) h (fun s' h' => ih (r + 1) s' (by omega) (by omega) (by omega) h')
  exact key (n - r).toNat r s (by omega) h0 hn h
/-- the memories differ at most at the scalars S and in the rows A -/
def fr (S A : List Nat) (M M' : ev_M) : Prop := (∀ n : Nat, n ∉ S → M'.1 n = M.1 n) ∧ (∀ c : Nat, c ∉ A → M'.2 c = M.2 c)
section FR
variable {S A S' A' : List Nat} {M M' M2 : ev_M} {c i : Nat} {x y : Int}
theorem fr.refl : fr S A M M := ⟨fun _ _ => rfl, fun _ _ => rfl⟩
theorem fr.trans (h1 : fr S A M M') (h2 : fr S A M' M2) : fr S A M M2 := ⟨fun n hn => (h2.1 n hn).trans (h1.1 n hn), fun n hn => (h2.2 n hn).trans (h1.2 n hn)⟩
theorem fr.mono (h : fr S A M M') (hS : ∀ n, n ∈ S → n ∈ S') (hA : ∀ n, n ∈ A → n ∈ A') : fr S' A' M M' := ⟨fun n hn => h.1 n (fun e => hn (hS n e)), fun n hn => h.2 n (fun e => hn (hA n e))⟩
theorem fr.sA (h : fr S A M M') (hc : c ∈ A) : fr S A M (ev_sA M' c i x) := ⟨h.1, fun b hb => by
  show (if b = c then tm_up (M'.2 c) i x else M'.2 b) = M.2 b
  rw [if_neg (show ¬ b = c from fun e => hb (e ▸ hc))]
  exact h.2 b hb⟩
theorem fr.sS (h : fr S A M M') (hc : c ∈ S) : fr S A M (ev_sS M' c x) := ⟨fun b hb => by
  show (if b = c then x else M'.1 b) = M.1 b
  rw [if_neg (show ¬ b = c from fun e => hb (e ▸ hc))]
  exact h.1 b hb, h.2⟩
theorem sA_same : (ev_sA M c i x).2 c i = x := by
  show (if c = c then tm_up (M.2 c) i x else M.2 c) i = x
  rw [if_pos rfl]
  exact if_pos rfl
theorem sA_ne {j : Nat} (h : j ≠ i) : (ev_sA M c i x).2 c j = M.2 c j := by
  show (if c = c then tm_up (M.2 c) i x else M.2 c) j = M.2 c j
  rw [if_pos rfl]
  exact if_neg h
theorem sA_o {b : Nat} (h : b ≠ c) : (ev_sA M c i x).2 b = M.2 b := if_neg h
theorem sA_sA : ev_sA (ev_sA M c i x) c i y = ev_sA M c i y := by
  refine Prod.ext rfl ?_
  funext b
  show (if b = c then tm_up ((ev_sA M c i x).2 c) i y else (ev_sA M c i x).2 b) = (if b = c then tm_up (M.2 c) i y else M.2 b)
  by_cases h : b = c
  · rw [if_pos h, if_pos h]
    funext j
    show (if j = i then y else (ev_sA M c i x).2 c j) = (if j = i then y else M.2 c j)
    by_cases hj : j = i
    · rw [if_pos hj, if_pos hj]
    · rw [if_neg hj, if_neg hj, sA_ne hj]
  · rw [if_neg h, if_neg h, sA_o h]
end FR
/-! A grammar as a pure value: number of rules, left, size, right -/
abbrev gT : Type := Int × (Int → Int) × (Int → Int) × (Int → Int → Int)
def gn (G : gT) : Int := G.1
def gl (G : gT) (r : Int) : Int := G.2.1 r
def gz (G : gT) (r : Int) : Int := G.2.2.1 r
def gs (G : gT) (r d : Int) : Int := G.2.2.2 r d
def okG (G : gT) : Prop := (0 ≤ gn G ∧ gn G ≤ 14) ∧ ∀ r : Int, 0 ≤ r → r < gn G → (0 ≤ gl G r ∧ gl G r < 6) ∧ (0 ≤ gz G r ∧ gz G r ≤ 4) ∧ ∀ d : Int, 0 ≤ d → d < gz G r → 0 ≤ gs G r d ∧ gs G r d < 10
/-- the class's memory holds the grammar -/
def isC (G : gT) (M : ev_M) : Prop := sG_count M = gn G ∧ ∀ r : Int, 0 ≤ r → r < gn G → aG_left M r.toNat = gl G r ∧ aG_size M r.toNat = gz G r ∧ ∀ d : Int, 0 ≤ d → d < gz G r → gR M r d = gs G r d
/-- the model's memory holds the grammar -/
def isM (G : gT) (M : ev_M) : Prop := sM_rules M = gn G ∧ ∀ r : Int, 0 ≤ r → r < gn G → aM_left M r.toNat = gl G r ∧ aM_sizes M r.toNat = gz G r ∧ ∀ d : Int, 0 ≤ d → d < gz G r → mR M r d = gs G r d
section PG
variable {G : gT} {M M' : ev_M}
theorem isC.of (hI : isC G M) (h1 : M'.1 3 = M.1 3) (h3 : M'.2 2 = M.2 2) (h4 : M'.2 3 = M.2 3) (h5 : M'.2 4 = M.2 4) : isC G M' := by
  unfold isC at hI ⊢
  simp only [sG_count, aG_left, aG_size, gR, aG_right] at hI ⊢
  rw [h1, h3, h4, h5]
  exact hI
theorem isM.of (hI : isM G M) (h1 : M'.1 11 = M.1 11) (h3 : M'.2 31 = M.2 31) (h4 : M'.2 32 = M.2 32) (h5 : M'.2 33 = M.2 33) : isM G M' := by
  unfold isM at hI ⊢
  simp only [sM_rules, aM_left, aM_sizes, mR, aM_right] at hI ⊢
  rw [h1, h3, h4, h5]
  exact hI
/-- maker x is awaited in the closure of kernel k -/
def awt (G : gT) (k x : Int) : Prop := ∀ W : Int → Prop, (bt k 56 = true → W 0) → (∀ r d : Int, 0 ≤ r → r < gn G → 0 ≤ d → d < gz G r → gs G r d < 6 → (d = 0 → W (gl G r)) → (d ≠ 0 → bt k (r * 4 + d - 1).toNat = true) → W (gs G r d)) → W x
/-- the closure of kernel k has the item -/
def ith (G : gT) (k r d : Int) : Prop := (d = 0 → awt G k (gl G r)) ∧ (d ≠ 0 → bt k (r * 4 + d - 1).toNat = true)
/-- kernel k leads over x to kernel y -/
def mvd (G : gT) (k x y : Int) : Prop := 0 ≤ y ∧ ∀ j : Nat, bt y j = true ↔ ((j = 57 ∧ x = 0 ∧ bt k 56 = true) ∨ ∃ r d : Int, 0 ≤ r ∧ r < gn G ∧ 0 ≤ d ∧ d < gz G r ∧ gs G r d = x ∧ ith G k r d ∧ j = (r * 4 + d).toNat)
theorem awt.rng (hG : okG G) {k x : Int} (h : awt G k x) : 0 ≤ x ∧ x < 6 := h (fun x => 0 ≤ x ∧ x < 6) (fun _ => ⟨by omega, by omega⟩) (fun r d r0 r1 d0 d1 s _ _ => ⟨(hG.2 r r0 r1).2.2 d d0 d1 |>.1, s⟩)
theorem awt.start {k : Int} (h : bt k 56 = true) : awt G k 0 := fun _ h0 _ => h0 h
theorem awt.step {k r d : Int} (r0 : 0 ≤ r) (r1 : r < gn G) (d0 : 0 ≤ d) (d1 : d < gz G r) (s : gs G r d < 6) (h : ith G k r d) : awt G k (gs G r d) := fun W w0 w1 => w1 r d r0 r1 d0 d1 s (fun e => h.1 e W w0 w1) h.2
theorem mvd.uniq {k x y z : Int} (h1 : mvd G k x y) (h2 : mvd G k x z) : y = z := by
  refine bt_ext h1.1 h2.1 (fun j => ?_)
  have := (h1.2 j).trans (h2.2 j).symm
  cases ha : bt y j <;> cases hb : bt z j <;> simp_all
/-- a kernel has no bits but its own -/
def kOK (G : gT) (k : Int) : Prop := (0 ≤ k ∧ k < 288230376151711744) ∧ (bt k 56 = true ↔ k = 72057594037927936) ∧ ∀ j : Nat, bt k j = true → j = 56 ∨ j = 57 ∨ ∃ r d : Int, 0 ≤ r ∧ r < gn G ∧ 0 ≤ d ∧ d < gz G r ∧ j = (r * 4 + d).toNat
theorem bt_lt {x : Int} {n : Nat} (h0 : 0 ≤ x) (h : ∀ j : Nat, bt x j = true → j < n) : x < ((2 ^ n : Nat) : Int) := by
  have : x.toNat < 2 ^ n := by
    refine Nat.lt_pow_two_of_testBit _ (fun i hi => ?_)
    cases hb : x.toNat.testBit i with
    | false => rfl
    | true => exact absurd (h i hb) (by omega)
  omega
theorem mvd.ok (hG : okG G) {k x y : Int} (h : mvd G k x y) : kOK G y := by
  have bits : ∀ j : Nat, bt y j = true → j = 57 ∨ ∃ r d : Int, 0 ≤ r ∧ r < gn G ∧ 0 ≤ d ∧ d < gz G r ∧ j = (r * 4 + d).toNat := by
    intro j hj
    rcases (h.2 j).mp hj with h | ⟨r, d, a1, a2, a3, a4, -, -, a7⟩
    · exact Or.inl h.1
    · exact Or.inr ⟨r, d, a1, a2, a3, a4, a7⟩
  have no56 : bt y 56 = false := by
    refine Bool.eq_false_iff.mpr (fun hb => ?_)
    rcases bits 56 hb with h | ⟨r, d, a1, a2, a3, a4, a7⟩
    · omega
    · have := (hG.2 r a1 a2).2.1
      have := hG.1
      omega
  refine ⟨⟨h.1, ?_⟩, ?_, fun j hj => Or.inr (bits j hj)⟩
  · refine bt_lt (n := 58) h.1 (fun j hj => ?_)
    rcases bits j hj with h | ⟨r, d, a1, a2, a3, a4, a7⟩
    · omega
    · have := (hG.2 r a1 a2).2.1
      have := hG.1
      omega
  · rw [no56]
    refine ⟨fun h => absurd h (by decide), fun h => ?_⟩
    rw [h] at no56
    exact absurd no56 (by decide)
theorem kOK0 : kOK G 72057594037927936 := by
  refine ⟨⟨by omega, by omega⟩, ⟨fun _ => rfl, fun _ => by decide⟩, fun j hj => ?_⟩
  have e : (72057594037927936 : Int) = ((2 ^ 56 : Nat) : Int) := by decide
  rw [e, bt_pow] at hj
  exact Or.inl (of_decide_eq_true hj).symm
end PG
