/-! Families as rows of cuts -/
/-- the symbols behind the last k of rule r (of z symbols) lead from p to j -/
def sf (G : gT) (D : Int → Int → Int → Prop) (r : Int) (z : Nat) : Nat → Int → Int → Prop
  | 0, p, j => p = j
  | k + 1, p, j => ∃ e : Int, D (gs G r ((z - (k + 1) : Nat) : Int)) p e ∧ sf G D r z k e j
section UP
variable {G : gT} {n : Int} {w : Int → Int} {T : Int → Int → Int → Bool} {D : Int → Int → Int → Prop} {m f t r i j p : Int}
theorem pth_u {k : Nat} : pth G D r k i p ↔ ∃ u : Nat → Int, u 0 = i ∧ u k = p ∧ ∀ d : Nat, d < k → D (gs G r d) (u d) (u (d + 1)) := by
  induction k generalizing p with
  | zero =>
    constructor
    · intro h
      exact ⟨fun _ => i, rfl, h, fun d hd => by omega⟩
    · rintro ⟨u, h0, h1, -⟩
      exact h0.symm.trans h1
  | succ k ih =>
    constructor
    · rintro ⟨q, h1, h2⟩
      obtain ⟨u, u0, u1, u2⟩ := ih.mp h1
      obtain ⟨v, hv⟩ : ∃ v : Nat → Int, ∀ d, v d = if d = k + 1 then p else u d := ⟨_, fun _ => rfl⟩
      refine ⟨v, by rw [hv, if_neg (by omega)]; exact u0, by rw [hv, if_pos rfl], fun d hd => ?_⟩
      rw [hv d, hv (d + 1), if_neg (show ¬ d = k + 1 by omega)]
      by_cases e : d = k
      · rw [if_pos (by omega), e, u1]; exact h2
      · rw [if_neg (by omega)]; exact u2 d (by omega)
    · rintro ⟨u, u0, u1, u2⟩
      exact ⟨u k, ih.mpr ⟨u, u0, rfl, fun d hd => u2 d (by omega)⟩, by rw [← u1]; exact u2 k (by omega)⟩
theorem sf_u {z k : Nat} (hk : k ≤ z) : sf G D r z k p j ↔ ∃ u : Nat → Int, u (z - k) = p ∧ u z = j ∧ ∀ d : Nat, z - k ≤ d → d < z → D (gs G r d) (u d) (u (d + 1)) := by
  induction k generalizing p with
  | zero =>
    constructor
    · intro h
      exact ⟨fun _ => p, rfl, h, fun d h1 h2 => by omega⟩
    · rintro ⟨u, h0, h1, -⟩
      rw [show z - 0 = z by omega] at h0
      exact h0.symm.trans h1
  | succ k ih =>
    constructor
    · rintro ⟨e, h1, h2⟩
      obtain ⟨u, u0, u1, u2⟩ := (ih (by omega)).mp h2
      obtain ⟨v, hv⟩ : ∃ v : Nat → Int, ∀ d, v d = if d = z - (k + 1) then p else u d := ⟨_, fun _ => rfl⟩
      refine ⟨v, by rw [hv, if_pos rfl], by rw [hv, if_neg (by omega)]; exact u1, fun d d1 d2 => ?_⟩
      rw [hv d, hv (d + 1), if_neg (show ¬ d + 1 = z - (k + 1) by omega)]
      by_cases e2 : d = z - (k + 1)
      · rw [if_pos e2, e2, show z - (k + 1) + 1 = z - k by omega, u0]; exact h1
      · rw [if_neg e2]; exact u2 d (by omega) d2
    · rintro ⟨u, u0, u1, u2⟩
      refine ⟨u (z - k), ?_, (ih (by omega)).mpr ⟨u, rfl, u1, fun d d1 d2 => u2 d (by omega) d2⟩⟩
      have := u2 (z - (k + 1)) (by omega) (by omega)
      rw [u0, show z - (k + 1) + 1 = z - k by omega] at this
      exact this
/-- a row of cuts of rule r from f to t -/
def cuts (G : gT) (T : Int → Int → Int → Bool) (r f t : Int) (u : Nat → Int) : Prop := u 0 = f ∧ u (gz G r).toNat = t ∧ ∀ k : Nat, k < (gz G r).toNat → T (gs G r k) (u k) (u (k + 1)) = true
theorem cuts.mono (hG : okG G) (hT : okT n w) (hD : isD G n w T) {u : Nat → Int} (h : cuts G T r f t u) : ∀ k : Nat, k ≤ (gz G r).toNat → f ≤ u k ∧ u k ≤ t ∧ ∀ k' : Nat, k' ≤ k → u k' ≤ u k := by
  have st : ∀ k : Nat, k < (gz G r).toNat → u k ≤ u (k + 1) := fun k hk => (((hD _ _ _).mp (h.2.2 k hk)).rng hG hT).2.2.1
  have up : ∀ k : Nat, k ≤ (gz G r).toNat → ∀ k' : Nat, k' ≤ k → u k' ≤ u k := by
    intro k
    induction k with
    | zero =>
      intro _ k' hk'
      have e : k' = 0 := by omega
      rw [e]; exact Int.le_refl _
    | succ k ih =>
      intro hk k' hk'
      by_cases e : k' = k + 1
      · rw [e]; exact Int.le_refl _
      · exact Int.le_trans (ih (by omega) k' (by omega)) (st k (by omega))
  intro k hk
  refine ⟨by have := up k hk 0 (by omega); rw [h.1] at this; exact this, by have := up (gz G r).toNat (Nat.le_refl _) k hk; rw [h.2.1] at this; exact this, up k hk⟩
theorem isF_of (hG : okG G) (hT : okT n w) (hD : isD G n w T) {u : Nat → Int} (hr : 0 ≤ r ∧ r < gn G) (hl : gl G r = m) (h : cuts G T r f t u) : isF G T m f t r (if 2 ≤ gz G r then u 1 else t) (if 3 ≤ gz G r then u 2 else t) (if 4 ≤ gz G r then u 3 else t) ∧ ∀ k : Int, 0 ≤ k → k < gz G r → pf f (if 2 ≤ gz G r then u 1 else t) (if 3 ≤ gz G r then u 2 else t) (if 4 ≤ gz G r then u 3 else t) k = u k.toNat ∧ pt (if 2 ≤ gz G r then u 1 else t) (if 3 ≤ gz G r then u 2 else t) (if 4 ≤ gz G r then u 3 else t) t k = u (k.toNat + 1) := by
  have g := (hG.2 r hr.1 hr.2).2.1
  have hmo := h.mono hG hT hD
  have hpp : ∀ k : Int, 0 ≤ k → k < gz G r → pf f (if 2 ≤ gz G r then u 1 else t) (if 3 ≤ gz G r then u 2 else t) (if 4 ≤ gz G r then u 3 else t) k = u k.toNat ∧ pt (if 2 ≤ gz G r then u 1 else t) (if 3 ≤ gz G r then u 2 else t) (if 4 ≤ gz G r then u 3 else t) t k = u (k.toNat + 1) := by
    intro k k0 k1
    rcases (by omega : k = 0 ∨ k = 1 ∨ k = 2 ∨ k = 3) with rfl | rfl | rfl | rfl
    · refine ⟨h.1.symm, ?_⟩
      show (if 2 ≤ gz G r then u 1 else t) = u 1
      by_cases e : 2 ≤ gz G r
      · rw [if_pos e]
      · rw [if_neg e, ← h.2.1, show (gz G r).toNat = 1 by omega]
    · refine ⟨show (if 2 ≤ gz G r then u 1 else t) = u 1 from if_pos (by omega), ?_⟩
      show (if 3 ≤ gz G r then u 2 else t) = u 2
      by_cases e : 3 ≤ gz G r
      · rw [if_pos e]
      · rw [if_neg e, ← h.2.1, show (gz G r).toNat = 2 by omega]
    · refine ⟨show (if 3 ≤ gz G r then u 2 else t) = u 2 from if_pos (by omega), ?_⟩
      show (if 4 ≤ gz G r then u 3 else t) = u 3
      by_cases e : 4 ≤ gz G r
      · rw [if_pos e]
      · rw [if_neg e, ← h.2.1, show (gz G r).toNat = 3 by omega]
    · refine ⟨show (if 4 ≤ gz G r then u 3 else t) = u 3 from if_pos (by omega), ?_⟩
      show t = u 4
      rw [← h.2.1, show (gz G r).toNat = 4 by omega]
  refine ⟨(isF_iff hG).mpr ⟨⟨hr, hl, fun e => if_neg (by omega), fun e => ?_, fun e => if_neg (by omega), fun e => ?_, fun e => if_neg (by omega), fun e => ?_⟩, fun e => ?_, fun k k0 k1 => ?_⟩, hpp⟩
  · rw [if_pos e]
    have := hmo 1 (by omega)
    exact ⟨this.1, this.2.1⟩
  · rw [if_pos (by omega), if_pos e]
    have := hmo 2 (by omega)
    exact ⟨this.2.2 1 (by omega), this.2.1⟩
  · rw [if_pos (by omega), if_pos e]
    have := hmo 3 (by omega)
    exact ⟨this.2.2 2 (by omega), this.2.1⟩
  · have h1 := h.1
    have h2 := h.2.1
    rw [e] at h2
    exact h1.symm.trans h2
  · rw [(hpp k k0 k1).1, (hpp k k0 k1).2]
    have := h.2.2 k.toNat (by omega)
    rw [show ((k.toNat : Nat) : Int) = k by omega] at this
    exact this
theorem cuts_of (hG : okG G) {a b c : Int} (h : isF G T m f t r a b c) : cuts G T r f t (fun k => if (k : Int) < gz G r then pf f a b c k else t) := by
  have g := (hG.2 r h.1.1.1 h.1.1.2).2.1
  obtain ⟨hv, h0, hk⟩ := (isF_iff hG).mp h
  obtain ⟨-, -, v3, v4, v5, v6, v7, v8⟩ := hv
  refine ⟨?_, if_neg (by omega), fun k k1 => ?_⟩
  · show (if ((0 : Nat) : Int) < gz G r then pf f a b c ((0 : Nat) : Int) else t) = f
    by_cases e : ((0 : Nat) : Int) < gz G r
    · rw [if_pos e]; rfl
    · rw [if_neg e]; exact (h0 (by omega)).symm
  · have h1 := hk k (by omega) (by omega)
    have e : (if ((k + 1 : Nat) : Int) < gz G r then pf f a b c ((k + 1 : Nat) : Int) else t) = pt a b c t k := by
      rcases (by omega : k = 0 ∨ k = 1 ∨ k = 2 ∨ k = 3) with rfl | rfl | rfl | rfl
      · by_cases e : ((0 + 1 : Nat) : Int) < gz G r
        · rw [if_pos e]; rfl
        · rw [if_neg e]; exact (v3 (by omega)).symm
      · by_cases e : ((1 + 1 : Nat) : Int) < gz G r
        · rw [if_pos e]; rfl
        · rw [if_neg e]; exact (v5 (by omega)).symm
      · by_cases e : ((2 + 1 : Nat) : Int) < gz G r
        · rw [if_pos e]; rfl
        · rw [if_neg e]; exact (v7 (by omega)).symm
      · rw [if_neg (by omega)]; rfl
    show T (gs G r k) (if (k : Int) < gz G r then pf f a b c k else t) (if ((k + 1 : Nat) : Int) < gz G r then pf f a b c ((k + 1 : Nat) : Int) else t) = true
    rw [e, if_pos (by omega)]
    exact h1
/-- the makers in a node's families, by paths -/
theorem kid_iff (hG : okG G) (hT : okT n w) (hD : isD G n w T) {x q : Int} : kid G T m i j x p q ↔ ∃ (r : Int) (d : Nat), (0 ≤ r ∧ r < gn G) ∧ gl G r = m ∧ d < (gz G r).toNat ∧ gs G r d ≤ 5 ∧ x = gs G r d ∧ pth G (der G n w) r d i p ∧ der G n w x p q ∧ sf G (der G n w) r (gz G r).toNat ((gz G r).toNat - (d + 1)) q j := by
  constructor
  · rintro ⟨r, a, b, c, k, hF, k0, k1, k2, rfl, rfl, rfl⟩
    have hcu := cuts_of hG hF
    have g := (hG.2 r hF.1.1.1 hF.1.1.2).2.1
    have ek : ((k.toNat : Nat) : Int) = k := by omega
    have hd : ∀ d : Nat, d < (gz G r).toNat → der G n w (gs G r d) ((fun k : Nat => if (k : Int) < gz G r then pf i a b c k else j) d) ((fun k : Nat => if (k : Int) < gz G r then pf i a b c k else j) (d + 1)) := fun d hd => (hD _ _ _).mp (hcu.2.2 d hd)
    have e1 : (fun k : Nat => if (k : Int) < gz G r then pf i a b c k else j) k.toNat = pf i a b c k := by
      show (if ((k.toNat : Nat) : Int) < gz G r then pf i a b c ((k.toNat : Nat) : Int) else j) = _
      rw [ek, if_pos k1]
    have e2 : (fun k : Nat => if (k : Int) < gz G r then pf i a b c k else j) (k.toNat + 1) = pt a b c j k := by
      have h1 := ((isF_of hG hT hD hF.1.1 hF.1.2.1 hcu).2 k k0 k1).2
      have fx : ∀ v : Nat → Int, pt (if 2 ≤ gz G r then v 1 else j) (if 3 ≤ gz G r then v 2 else j) (if 4 ≤ gz G r then v 3 else j) j k = v (k.toNat + 1) → v = (fun k : Nat => if (k : Int) < gz G r then pf i a b c k else j) → v (k.toNat + 1) = pt a b c j k := by
        intro v hv ev
        rw [← hv]
        obtain ⟨-, -, v3, v4, v5, v6, v7, v8⟩ := hF.1
        have q1 : (if 2 ≤ gz G r then v 1 else j) = a := by
          by_cases e : 2 ≤ gz G r
          · rw [if_pos e, ev]
            show (if ((1 : Nat) : Int) < gz G r then pf i a b c ((1 : Nat) : Int) else j) = a
            rw [if_pos (by omega)]; rfl
          · rw [if_neg e]; exact (v3 (by omega)).symm
        have q2 : (if 3 ≤ gz G r then v 2 else j) = b := by
          by_cases e : 3 ≤ gz G r
          · rw [if_pos e, ev]
            show (if ((2 : Nat) : Int) < gz G r then pf i a b c ((2 : Nat) : Int) else j) = b
            rw [if_pos (by omega)]; rfl
          · rw [if_neg e]; exact (v5 (by omega)).symm
        have q3 : (if 4 ≤ gz G r then v 3 else j) = c := by
          by_cases e : 4 ≤ gz G r
          · rw [if_pos e, ev]
            show (if ((3 : Nat) : Int) < gz G r then pf i a b c ((3 : Nat) : Int) else j) = c
            rw [if_pos (by omega)]; rfl
          · rw [if_neg e]; exact (v7 (by omega)).symm
        rw [q1, q2, q3]
      exact fx _ h1 rfl
    refine ⟨r, k.toNat, hF.1.1, hF.1.2.1, by omega, by rw [ek]; exact k2, by rw [ek], pth_u.mpr ⟨_, hcu.1, e1, fun d hlt => hd d (by omega)⟩, ?_, (sf_u (by omega)).mpr ⟨_, by rw [show (gz G r).toNat - ((gz G r).toNat - (k.toNat + 1)) = k.toNat + 1 by omega]; exact e2, hcu.2.1, fun d _ h2 => hd d h2⟩⟩
    have := hd k.toNat (by omega)
    rw [e1, e2, ek] at this
    exact this
  · rintro ⟨r, d, hr, hl, d1, d2, hx, h1, h2, h3⟩
    subst hx
    obtain ⟨u1, a1, a2, a3⟩ := pth_u.mp h1
    obtain ⟨u2, b1, b2, b3⟩ := (sf_u (by omega)).mp h3
    rw [show (gz G r).toNat - ((gz G r).toNat - (d + 1)) = d + 1 by omega] at b1 b3
    obtain ⟨v, hv⟩ : ∃ v : Nat → Int, ∀ k, v k = if k ≤ d then u1 k else u2 k := ⟨_, fun _ => rfl⟩
    have hcu : cuts G T r i j v := by
      refine ⟨by rw [hv, if_pos (by omega)]; exact a1, by rw [hv, if_neg (by omega)]; exact b2, fun k hk => ?_⟩
      rw [hD, hv, hv]
      by_cases e : k < d
      · rw [if_pos (by omega), if_pos (by omega)]; exact a3 k e
      · by_cases e2 : k = d
        · subst e2
          rw [if_pos (Nat.le_refl _), if_neg (by omega), a2, b1]; exact h2
        · rw [if_neg (by omega), if_neg (by omega)]; exact b3 k (by omega) hk
    obtain ⟨hF, hpp⟩ := isF_of hG hT hD hr hl hcu
    have := hpp d (by omega) (by omega)
    refine ⟨r, _, _, _, d, hF, by omega, by omega, d2, rfl, ?_, ?_⟩
    · rw [this.1]
      rw [hv, show ((d : Int).toNat) = d by omega, if_pos (Nat.le_refl _), a2]
    · rw [this.2]
      rw [hv, show ((d : Int).toNat) = d by omega, if_neg (by omega), b1]
end UP
