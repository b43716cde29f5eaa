/-! Trees: there are as many as counted, how long they are -/
def sS (s : Nat → Int) : Nat → Int
  | 0 => 0
  | d + 1 => sS s d + s d
section SB
variable {G : gT} {n : Int} {w : Int → Int} {T : Int → Int → Int → Bool} {f t r : Int}
/-- the sum of the sizes of a family's parts -/
theorem sS_bound (hG : okG G) (hT : okT n w) (hD : isD G n w T) (hr : 0 ≤ r ∧ r < gn G) {u : Nat → Int} (hc : cuts G T r f t u) {s : Nat → Int} {p : Int} (hp : 0 ≤ p ∧ p ≤ 5) (ρ : Int → Int → Int → Int) (hρ : ∀ k : Nat, k < (gz G r).toNat → gs G r (k : Int) < 6 → (6 * (u (k + 1) - u k) ≤ ρ (gs G r (k : Int)) (u k) (u (k + 1)) ∧ ρ (gs G r (k : Int)) (u k) (u (k + 1)) ≤ 6 * (u (k + 1) - u k) + 5) ∧ ρ (gs G r (k : Int)) (u k) (u (k + 1)) < 6 * (t - f) + p ∧ s k ≤ szB (u (k + 1) - u k) (ρ (gs G r (k : Int)) (u k) (u (k + 1)) - 6 * (u (k + 1) - u k))) (hw : ∀ k : Nat, k < (gz G r).toNat → 6 ≤ gs G r (k : Int) → s k = 0) : 1 + sS s (gz G r).toNat ≤ szB (t - f) p := by
  have g := (hG.2 r hr.1 hr.2).2.1
  have hmo := hc.mono hG hT hD
  have hft : f ≤ t := by have := (hmo 0 (by omega)).2.1; rw [hc.1] at this; exact this
  have hwl : ∀ k : Nat, k < (gz G r).toNat → 6 ≤ gs G r (k : Int) → u (k + 1) = u k + 1 := by
    intro k hk h6
    exact ((((hD _ _ _).mp (hc.2.2 k hk)).rng hG hT).2.2.2.2 h6).1
  have hle : ∀ k : Nat, k < (gz G r).toNat → u k ≤ u (k + 1) := fun k hk => (((hD _ _ _).mp (hc.2.2 k hk)).rng hG hT).2.2.1
  by_cases hl : t - f = 0
  · -- an empty part
    unfold szB
    rw [if_pos hl]
    have hall : ∀ k : Nat, k ≤ (gz G r).toNat → u k = f := by
      intro k hk
      have := hmo k hk
      omega
    have hk : ∀ k : Nat, k < (gz G r).toNat → s k ≤ b0 (p - 1) ∧ 1 ≤ p := by
      intro k hk
      have e1 := hall k (by omega)
      have e2 := hall (k + 1) (by omega)
      by_cases h6 : gs G r (k : Int) < 6
      · obtain ⟨a1, a2, a3⟩ := hρ k hk h6
        rw [e1, e2] at a1 a2 a3
        rw [show f - f = 0 by omega] at a1 a3
        unfold szB at a3
        rw [if_pos rfl] at a3
        exact ⟨Int.le_trans a3 (b0_mono (by omega)), by omega⟩
      · have := hwl k hk (by omega)
        omega
    have hS : ∀ k : Nat, k ≤ (gz G r).toNat → sS s k ≤ b0 (p - 1) * k := by
      intro k
      induction k with
      | zero => intro _; show (0 : Int) ≤ _; omega
      | succ k ih =>
        intro hk2
        have h1 := ih (by omega)
        have h2 := (hk k (by omega)).1
        have e : b0 (p - 1) * ((k + 1 : Nat) : Int) = b0 (p - 1) * (k : Int) + b0 (p - 1) := by
          rw [Int.natCast_add, Int.mul_add]; omega
        show sS s k + _ ≤ _
        omega
    by_cases hz : (gz G r).toNat = 0
    · rw [hz]
      show 1 + 0 ≤ _
      have := b0_le p
      omega
    · have hp1 := (hk 0 (by omega)).2
      have h1 := hS _ (Nat.le_refl _)
      have h2 := b0_step (p := p) ⟨hp1, hp.2⟩
      have h3 := b0_le (p - 1)
      have h4 : b0 (p - 1) * ((gz G r).toNat : Int) ≤ b0 (p - 1) * 4 := Int.mul_le_mul_of_nonneg_left (by omega) (by omega)
      omega
  · -- a part with words
    unfold szB
    rw [if_neg hl]
    have hpt : ∀ k : Nat, k < (gz G r).toNat → ptB (t - f) p (u (k + 1) - u k) (s k) := by
      intro k hk
      have hlk := hle k hk
      by_cases h6 : gs G r (k : Int) < 6
      · obtain ⟨a1, a2, a3⟩ := hρ k hk h6
        unfold szB at a3
        by_cases e0 : u (k + 1) - u k = 0
        · rw [if_pos e0] at a3
          have := b0_le (ρ (gs G r (k : Int)) (u k) (u (k + 1)) - 6 * (u (k + 1) - u k))
          exact ⟨fun _ => by omega, fun h => by omega, fun h => by omega⟩
        · rw [if_neg e0] at a3
          exact ⟨fun h => absurd h e0, fun h1 h2 => by omega, fun h => by omega⟩
      · have e1 := hwl k hk (by omega)
        have e2 := hw k hk (by omega)
        rw [e2]
        exact ⟨fun h => by omega, fun h1 h2 => by omega, fun h => by omega⟩
    have pz : ptB (t - f) p 0 0 := ⟨fun _ => by omega, fun h => by omega, fun h => by omega⟩
    have hu0 := hc.1
    have huz := hc.2.1
    rcases (by omega : (gz G r).toNat = 0 ∨ (gz G r).toNat = 1 ∨ (gz G r).toNat = 2 ∨ (gz G r).toNat = 3 ∨ (gz G r).toNat = 4) with z | z | z | z | z
    · rw [z] at huz; omega
    · rw [z] at huz ⊢
      have l0 : u 0 ≤ u 1 := hle 0 (by omega)
      have p0 : ptB (t - f) p (u 1 - u 0) (s 0) := hpt 0 (by omega)
      have := sz4 (l := t - f) (p := p) (by omega) hp.1 (by omega) (Int.le_refl 0) (Int.le_refl 0) (Int.le_refl 0) (by omega) p0 pz pz pz
      show 1 + (0 + s 0) ≤ _
      omega
    · rw [z] at huz ⊢
      have l0 : u 0 ≤ u 1 := hle 0 (by omega)
      have l1 : u 1 ≤ u 2 := hle 1 (by omega)
      have p0 : ptB (t - f) p (u 1 - u 0) (s 0) := hpt 0 (by omega)
      have p1 : ptB (t - f) p (u 2 - u 1) (s 1) := hpt 1 (by omega)
      have := sz4 (l := t - f) (p := p) (by omega) hp.1 (by omega) (by omega) (Int.le_refl 0) (Int.le_refl 0) (by omega) p0 p1 pz pz
      show 1 + (0 + s 0 + s 1) ≤ _
      omega
    · rw [z] at huz ⊢
      have l0 : u 0 ≤ u 1 := hle 0 (by omega)
      have l1 : u 1 ≤ u 2 := hle 1 (by omega)
      have l2 : u 2 ≤ u 3 := hle 2 (by omega)
      have p0 : ptB (t - f) p (u 1 - u 0) (s 0) := hpt 0 (by omega)
      have p1 : ptB (t - f) p (u 2 - u 1) (s 1) := hpt 1 (by omega)
      have p2 : ptB (t - f) p (u 3 - u 2) (s 2) := hpt 2 (by omega)
      have := sz4 (l := t - f) (p := p) (by omega) hp.1 (by omega) (by omega) (by omega) (Int.le_refl 0) (by omega) p0 p1 p2 pz
      show 1 + (0 + s 0 + s 1 + s 2) ≤ _
      omega
    · rw [z] at huz ⊢
      have l0 : u 0 ≤ u 1 := hle 0 (by omega)
      have l1 : u 1 ≤ u 2 := hle 1 (by omega)
      have l2 : u 2 ≤ u 3 := hle 2 (by omega)
      have l3 : u 3 ≤ u 4 := hle 3 (by omega)
      have p0 : ptB (t - f) p (u 1 - u 0) (s 0) := hpt 0 (by omega)
      have p1 : ptB (t - f) p (u 2 - u 1) (s 1) := hpt 1 (by omega)
      have p2 : ptB (t - f) p (u 3 - u 2) (s 2) := hpt 2 (by omega)
      have p3 : ptB (t - f) p (u 4 - u 3) (s 3) := hpt 3 (by omega)
      have := sz4 (l := t - f) (p := p) (by omega) hp.1 (by omega) (by omega) (by omega) (by omega) (by omega) p0 p1 p2 p3
      show 1 + (0 + s 0 + s 1 + s 2 + s 3) ≤ _
      omega
end SB
/-- counts and ranks of the nodes in use, purely -/
def VF (G : gT) (n : Int) (T : Int → Int → Int → Bool) (v : Int → Int → Int → Nat) (ρ : Int → Int → Int → Int) : Prop := cv T v = v ∧ onT T v ∧ (∀ m i j : Int, m < 6 → v m i j ≠ 0 → usd G n T m i j) ∧ (∀ m i j : Int, usd G n T m i j → v m i j = min (sumN (wt G v m i j) 18634) 1000000000) ∧ ∀ m i j : Int, usd G n T m i j → (6 * (j - i) ≤ ρ m i j ∧ ρ m i j ≤ 6 * (j - i) + 5) ∧ ∀ x p e : Int, kid G T m i j x p e → ρ x p e < ρ m i j
section TE
variable {G : gT} {n : Int} {w : Int → Int} {T : Int → Int → Int → Bool} {v : Int → Int → Int → Nat} {fl : Int → Int → Int → Int} {ρ : Int → Int → Int → Int} {m i j : Int} {k : Nat} {L : List Int}
theorem cat_len (Ls : Nat → List Int) : ∀ z : Nat, ((cat Ls z).length : Int) = sS (fun d => ((Ls d).length : Int)) z := by
  intro z
  induction z with
  | zero => rfl
  | succ z ih =>
    show ((cat Ls z ++ Ls z).length : Int) = sS _ z + ((Ls z).length : Int)
    rw [List.length_append, ← ih]
    omega
theorem TR.ex (hG : okG G) (hT : okT n w) (hD : isD G n w T) (hV : VF G n T v ρ) : ∀ (N : Nat) (m i j : Int) (k : Nat), ρ m i j < N → usd G n T m i j → k < v m i j → ∃ L : List Int, TR G n T v m i j k L := by
  have hn := hT.1
  obtain ⟨hcv, hon, hvu, heq, hρ⟩ := hV
  intro N
  induction N with
  | zero =>
    intro m i j k hN hu hk
    have hr := hu.rng hG hT hD
    have := (hρ m i j hu).1
    omega
  | succ N ih =>
    intro m i j k hN hu hk
    have hr := hu.rng hG hT hD
    have hft : 0 ≤ i ∧ i ≤ j ∧ j ≤ 10 := by omega
    have hk2 : k < sumN (wt G v m i j) 18634 := by
      rw [heq m i j hu] at hk
      have := Nat.min_le_left (sumN (wt G v m i j) 18634) 1000000000
      omega
    obtain ⟨q, q1, q2, q3⟩ := sum_find 18634 hk2
    obtain ⟨r, u, hr2, hl, hc, hq⟩ := cuts_code hG hT hD hon (show wt G v m i j q ≠ 0 by omega)
    have eq : (cdu G r j u).toNat = q := by rw [hq]; exact Int.toNat_natCast q
    have hw := wt_cdu (v := v) hG hT hD hft hr2 hl hc
    rw [eq] at hw
    have hb : rkB G v r u (gz G r).toNat ≠ 0 := by omega
    have hbn := (rkB_ne _).mp hb
    have ex : ∀ d : Nat, ∃ Ld : List Int, d < (gz G r).toNat → (6 ≤ gs G r (d : Int) → Ld = []) ∧ (gs G r (d : Int) < 6 → TR G n T v (gs G r (d : Int)) (u d) (u (d + 1)) (shr G v r u (gz G r).toNat (k - sumN (wt G v m i j) (cdu G r j u).toNat) d) Ld) := by
      intro d
      by_cases hd : d < (gz G r).toNat
      · by_cases h6 : gs G r (d : Int) < 6
        · have hkd := kid_cuts hG hT hD hr2 hl hc hd (by omega)
          have hlt := (hρ m i j hu).2 _ _ _ hkd
          have hsh : shr G v r u (gz G r).toNat (k - sumN (wt G v m i j) (cdu G r j u).toNat) d < v (gs G r (d : Int)) (u d) (u (d + 1)) := Nat.mod_lt _ (Nat.pos_of_ne_zero (hbn d hd))
          obtain ⟨Ld, hL⟩ := ih _ _ _ _ (by omega) (hu.kid hkd) hsh
          exact ⟨Ld, fun _ => ⟨fun h => by omega, fun _ => hL⟩⟩
        · exact ⟨[], fun _ => ⟨fun _ => rfl, fun h => absurd h h6⟩⟩
      · exact ⟨[], fun h => absurd h hd⟩
    refine ⟨r :: cat (fun d => Classical.choose (ex d)) (gz G r).toNat, TR.mk m i j k r u _ hu hr2 hl hc (by rw [eq]; exact q2) (by rw [eq, ← hw]; exact q3) (fun d hd => Classical.choose_spec (ex d) hd)⟩
theorem TR.size (hG : okG G) (hT : okT n w) (hD : isD G n w T) (hV : VF G n T v ρ) (h : TR G n T v m i j k L) : usd G n T m i j ∧ 1 ≤ (L.length : Int) ∧ (L.length : Int) ≤ szB (j - i) (ρ m i j - 6 * (j - i)) := by
  have hn := hT.1
  obtain ⟨hcv, hon, hvu, heq, hρ⟩ := hV
  refine h (fun m i j k L => usd G n T m i j ∧ 1 ≤ (L.length : Int) ∧ (L.length : Int) ≤ szB (j - i) (ρ m i j - 6 * (j - i))) ?_
  intro m i j k r u Ls hu hr hl hc hS1 hS2 hch
  have hrg := hu.rng hG hT hD
  have hb := (hρ m i j hu).1
  refine ⟨hu, by rw [List.length_cons]; omega, ?_⟩
  have := sS_bound (s := fun d => ((Ls d).length : Int)) (p := ρ m i j - 6 * (j - i)) hG hT hD hr hc (by omega) ρ (fun d hd h6 => ?_) (fun d hd h6 => ?_)
  · rw [List.length_cons]
    have hcl := cat_len Ls (gz G r).toNat
    omega
  · have hkd := kid_cuts hG hT hD hr hl hc hd (by omega)
    have hk1 := (hρ _ _ _ (hu.kid hkd)).1
    have hk2 := (hρ m i j hu).2 _ _ _ hkd
    exact ⟨hk1, by omega, ((hch d hd).2 h6).2.2⟩
  · rw [(hch d hd).1 h6]; rfl
theorem xq_zero {r : Int} {u : Nat → Int} {z : Nat} : ∀ q : Nat, xq G v r u z 0 q = 0 := by
  intro q
  induction q with
  | zero => rfl
  | succ q ih =>
    show xq G v r u z 0 q / _ = 0
    rw [ih, Nat.zero_div]
/-- the first tree has the first length -/
theorem TR.first (hG : okG G) (hT : okT n w) (hD : isD G n w T) (hV : VF G n T v ρ) (hfl : ∀ m i j : Int, m < 6 → v m i j ≠ 0 → flE G T v fl m i j (fl m i j)) (hfw : ∀ x p e : Int, 6 ≤ x → T x p e = true → fl x p e = 0) (h : TR G n T v m i j k L) (hk : k = 0) : (L.length : Int) = fl m i j := by
  have hn := hT.1
  obtain ⟨hcv, hon, hvu, heq, hρ⟩ := hV
  refine h (fun m i j k L => k = 0 → (L.length : Int) = fl m i j) ?_ hk
  intro m i j k r u Ls hu hr hl hc hS1 hS2 hch hk0
  subst hk0
  have hrg := hu.rng hG hT hD
  have hft : 0 ≤ i ∧ i ≤ j ∧ j ≤ 10 := by omega
  have hw := wt_cdu (v := v) hG hT hD hft hr hl hc
  have hcr := cdu_rng hG hT hD hft hr hc
  have hS0 : sumN (wt G v m i j) (cdu G r j u).toNat = 0 := by omega
  have hb : rkB G v r u (gz G r).toNat ≠ 0 := by omega
  have hne : v m i j ≠ 0 := by
    rw [heq m i j hu]
    have h1 : sumN (wt G v m i j) ((cdu G r j u).toNat + 1) ≤ sumN (wt G v m i j) 18634 := sumN_mono (by omega)
    have h2 : sumN (wt G v m i j) ((cdu G r j u).toNat + 1) = sumN (wt G v m i j) (cdu G r j u).toNat + wt G v m i j (cdu G r j u).toNat := rfl
    omega
  obtain ⟨r', u', hr', hl', hc', hb', hs', hL'⟩ := hfl m i j (by omega) hne
  have hw' := wt_cdu (v := v) hG hT hD hft hr' hl' hc'
  have hcr' := cdu_rng hG hT hD hft hr' hc'
  have eq := pos_uniq (F := wt G v m i j) (k := 0) (q := (cdu G r j u).toNat) (q' := (cdu G r' j u').toNat) (by omega) (by omega) (by omega) (by omega)
  obtain ⟨e1, e2⟩ := cdu_inj hG hT hD hft hr hr' hc hc' (by omega)
  subst e1
  rw [hL', List.length_cons]
  have key : ∀ d : Nat, d ≤ (gz G r).toNat → ((cat Ls d).length : Int) = flS G fl r u' d := by
    intro d
    induction d with
    | zero => intro _; rfl
    | succ d ih =>
      intro hd
      have h1 := ih (by omega)
      show ((cat Ls d ++ Ls d).length : Int) = flS G fl r u' d + fl (gs G r (d : Int)) (u' d) (u' (d + 1))
      rw [List.length_append, ← e2 d (by omega), ← e2 (d + 1) hd]
      have h2 : ((Ls d).length : Int) = fl (gs G r (d : Int)) (u d) (u (d + 1)) := by
        by_cases h6 : gs G r (d : Int) < 6
        · refine (hch d (by omega)).2 h6 ?_
          unfold shr
          rw [hS0, show 0 - 0 = 0 by omega, xq_zero, Nat.zero_mod]
        · rw [(hch d (by omega)).1 (by omega), hfw _ _ _ (by omega) (hc.2.2 d (by omega))]; rfl
      omega
  have := key _ (Nat.le_refl _)
  omega
end TE
