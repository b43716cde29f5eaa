/-! Counting -/
def cntB (f : Nat → Bool) : Nat → Nat
  | 0 => 0
  | n + 1 => cntB f n + (f n).toNat
section CNT
variable {f g : Nat → Bool} {n : Nat}
theorem cntB_le : cntB f n ≤ n := by
  induction n with
  | zero => exact Nat.le_refl _
  | succ n ih =>
    have : (f n).toNat ≤ 1 := Bool.toNat_le _
    show cntB f n + (f n).toNat ≤ n + 1
    omega
theorem toNat_mono {a b : Bool} (h : a = true → b = true) : a.toNat ≤ b.toNat := by
  cases a <;> cases b <;> simp_all
theorem cntB_mono (h : ∀ k, k < n → f k = true → g k = true) : cntB f n ≤ cntB g n := by
  induction n with
  | zero => exact Nat.le_refl _
  | succ n ih =>
    have h1 := ih (fun k hk => h k (by omega))
    have h2 := toNat_mono (h n (by omega))
    show cntB f n + (f n).toNat ≤ cntB g n + (g n).toNat
    omega
theorem cntB_congr (h : ∀ k, k < n → f k = g k) : cntB f n = cntB g n := by
  induction n with
  | zero => rfl
  | succ n ih =>
    show cntB f n + (f n).toNat = cntB g n + (g n).toNat
    rw [ih (fun k hk => h k (by omega)), h n (by omega)]
theorem cntB_lt {k : Nat} (h : ∀ k, k < n → f k = true → g k = true) (hk : k < n) (hf : f k = false) (hg : g k = true) : cntB f n < cntB g n := by
  induction n with
  | zero => omega
  | succ n ih =>
    show cntB f n + (f n).toNat < cntB g n + (g n).toNat
    by_cases e : k = n
    · subst e
      have h1 := cntB_mono (n := k) (f := f) (g := g) (fun k hk => h k (by omega))
      rw [hf, hg]
      show cntB f k + 0 < cntB g k + 1
      omega
    · have h1 := ih (fun k hk => h k (by omega)) (by omega)
      have h2 := toNat_mono (h n (by omega))
      omega
theorem cntB_full (h : cntB f n = n) : ∀ k, k < n → f k = true := by
  intro k hk
  refine Decidable.byContradiction (fun hn => ?_)
  have h1 := cntB_lt (g := fun _ => true) (f := f) (n := n) (k := k) (fun _ _ _ => rfl) hk (Bool.eq_false_iff.mpr hn) rfl
  have h2 := cntB_le (f := fun _ => true) (n := n)
  omega
end CNT
theorem bt_or2 {x y : Int} {j : Nat} : bt (tm_or x y) j = (bt x j || bt y j) := by
  show (x.toNat ||| y.toNat).testBit j = _
  rw [Nat.testBit_or]
  rfl
theorem or2_rng {x y : Int} {n : Nat} (hx : 0 ≤ x ∧ x < ((2 ^ n : Nat) : Int)) (hy : 0 ≤ y ∧ y < ((2 ^ n : Nat) : Int)) : 0 ≤ tm_or x y ∧ tm_or x y < ((2 ^ n : Nat) : Int) := by
  refine ⟨Int.natCast_nonneg _, ?_⟩
  show ((x.toNat ||| y.toNat : Nat) : Int) < _
  have h1 : x.toNat < 2 ^ n := by omega
  have h2 : y.toNat < 2 ^ n := by omega
  have := Nat.or_lt_two_pow h1 h2
  omega
theorem sA_id {M : ev_M} {c i : Nat} : ev_sA M c i (M.2 c i) = M := by
  refine Prod.ext rfl ?_
  funext b
  show (if b = c then tm_up (M.2 c) i (M.2 c i) else M.2 b) = M.2 b
  by_cases h : b = c
  · subst h
    rw [if_pos rfl]
    funext j
    show (if j = i then M.2 b i else M.2 b j) = M.2 b j
    by_cases hj : j = i
    · rw [if_pos hj, hj]
    · rw [if_neg hj]
  · rw [if_neg h]
/-! Which symbol stands for which part of the text -/
/-- the first k symbols of rule r lead from i to j -/
def pth (G : gT) (D : Int → Int → Int → Prop) (r : Int) : Nat → Int → Int → Prop
  | 0, i, j => i = j
  | k + 1, i, j => ∃ m : Int, pth G D r k i m ∧ D (gs G r k) m j
/-- symbol x stands for the text from i to j -/
def der (G : gT) (n : Int) (w : Int → Int) (x i j : Int) : Prop := ∀ D : Int → Int → Int → Prop, (∀ p : Int, 0 ≤ p → p < n → D (w p) p (p + 1)) → (∀ r i j : Int, 0 ≤ r → r < gn G → 0 ≤ i → i ≤ n → pth G D r (gz G r).toNat i j → D (gl G r) i j) → D x i j
def okT (n : Int) (w : Int → Int) : Prop := (0 ≤ n ∧ n ≤ 10) ∧ ∀ p : Int, 0 ≤ p → p < n → 6 ≤ w p ∧ w p < 10
/-- makers that stand for nothing -/
def nul (G : gT) (m : Int) : Prop := ∀ N : Int → Prop, (∀ r : Int, 0 ≤ r → r < gn G → (∀ d : Int, 0 ≤ d → d < gz G r → gs G r d < 6 ∧ N (gs G r d)) → N (gl G r)) → N m
section DER
variable {G : gT} {n : Int} {w : Int → Int} {D D' : Int → Int → Int → Prop} {r x i j : Int} {k : Nat}
theorem pth_mono (h : ∀ d : Nat, d < k → ∀ a b : Int, D (gs G r d) a b → D' (gs G r d) a b) (hp : pth G D r k i j) : pth G D' r k i j := by
  induction k generalizing j with
  | zero => exact hp
  | succ k ih =>
    obtain ⟨m, h1, h2⟩ := hp
    exact ⟨m, ih (fun d hd => h d (by omega)) h1, h k (by omega) _ _ h2⟩
theorem der.word {p : Int} (h0 : 0 ≤ p) (h1 : p < n) : der G n w (w p) p (p + 1) := fun _ a _ => a p h0 h1
theorem der.rule (r0 : 0 ≤ r) (r1 : r < gn G) (i0 : 0 ≤ i) (i1 : i ≤ n) (h : pth G (der G n w) r (gz G r).toNat i j) : der G n w (gl G r) i j := fun D a b => b r i j r0 r1 i0 i1 (pth_mono (fun _ _ _ _ hd => hd D a b) h)
theorem der.inv (h : der G n w x i j) : (∃ p : Int, 0 ≤ p ∧ p < n ∧ x = w p ∧ i = p ∧ j = p + 1) ∨ ∃ r : Int, 0 ≤ r ∧ r < gn G ∧ x = gl G r ∧ 0 ≤ i ∧ i ≤ n ∧ pth G (der G n w) r (gz G r).toNat i j := by
  have key : der G n w x i j ∧ ((∃ p : Int, 0 ≤ p ∧ p < n ∧ x = w p ∧ i = p ∧ j = p + 1) ∨ ∃ r : Int, 0 ≤ r ∧ r < gn G ∧ x = gl G r ∧ 0 ≤ i ∧ i ≤ n ∧ pth G (der G n w) r (gz G r).toNat i j) := by
    refine h (fun x i j => der G n w x i j ∧ ((∃ p : Int, 0 ≤ p ∧ p < n ∧ x = w p ∧ i = p ∧ j = p + 1) ∨ ∃ r : Int, 0 ≤ r ∧ r < gn G ∧ x = gl G r ∧ 0 ≤ i ∧ i ≤ n ∧ pth G (der G n w) r (gz G r).toNat i j)) (fun p p0 p1 => ⟨der.word p0 p1, Or.inl ⟨p, p0, p1, rfl, rfl, rfl⟩⟩) (fun r i j r0 r1 i0 i1 hp => ?_)
    have hp2 : pth G (der G n w) r (gz G r).toNat i j := pth_mono (fun _ _ _ _ h => h.1) hp
    exact ⟨der.rule r0 r1 i0 i1 hp2, Or.inr ⟨r, r0, r1, rfl, i0, i1, hp2⟩⟩
  exact key.2
theorem pth_le (h : ∀ x a b : Int, D x a b → a ≤ b) (hp : pth G D r k i j) : i ≤ j := by
  induction k generalizing j with
  | zero => exact Int.le_of_eq hp
  | succ k ih =>
    obtain ⟨m, h1, h2⟩ := hp
    exact Int.le_trans (ih h1) (h _ _ _ h2)
theorem pth_end (h : ∀ x a b : Int, D x a b → b ≤ n) (hi : i ≤ n) (hp : pth G D r k i j) : j ≤ n := by
  cases k with
  | zero => have : i = j := hp; omega
  | succ k =>
    obtain ⟨m, h1, h2⟩ := hp
    exact h _ _ _ h2
theorem der.rng (hG : okG G) (hT : okT n w) (h : der G n w x i j) : (0 ≤ x ∧ x < 10) ∧ 0 ≤ i ∧ i ≤ j ∧ j ≤ n ∧ (6 ≤ x → j = i + 1 ∧ i < n ∧ w i = x) := by
  refine h (fun x i j => (0 ≤ x ∧ x < 10) ∧ 0 ≤ i ∧ i ≤ j ∧ j ≤ n ∧ (6 ≤ x → j = i + 1 ∧ i < n ∧ w i = x)) (fun p p0 p1 => ?_) (fun r i j r0 r1 i0 i1 hp => ?_)
  · have := hT.2 p p0 p1
    exact ⟨by omega, p0, by omega, by omega, fun _ => ⟨rfl, p1, rfl⟩⟩
  · have hr := (hG.2 r r0 r1).1
    exact ⟨by omega, i0, pth_le (fun x a b h => h.2.2.1) hp, pth_end (fun x a b h => h.2.2.2.1) i1 hp, fun h => by omega⟩
theorem nul.rule (r0 : 0 ≤ r) (r1 : r < gn G) (h : ∀ d : Int, 0 ≤ d → d < gz G r → gs G r d < 6 ∧ nul G (gs G r d)) : nul G (gl G r) := fun N a => a r r0 r1 (fun d d0 d1 => ⟨(h d d0 d1).1, (h d d0 d1).2 N a⟩)
theorem pth_all {i : Int} : ∀ k : Nat, (∀ d : Nat, d < k → D (gs G r d) i i) → pth G D r k i i := by
  intro k
  induction k with
  | zero => intro _; exact rfl
  | succ k ih => intro h; exact ⟨i, ih (fun d hd => h d (by omega)), h k (by omega)⟩
theorem nul.toDer (hG : okG G) {m : Int} (h : nul G m) : ∀ i : Int, 0 ≤ i → i ≤ n → der G n w m i i := by
  refine h (fun m => ∀ i : Int, 0 ≤ i → i ≤ n → der G n w m i i) (fun r r0 r1 hd i i0 i1 => ?_)
  have hz := (hG.2 r r0 r1).2.1
  exact der.rule r0 r1 i0 i1 (pth_all _ (fun d hlt => (hd d (by omega) (by omega)).2 i i0 i1))
theorem pth_flat (h : ∀ x a b : Int, D x a b → a ≤ b) : ∀ k : Nat, pth G D r k i i → ∀ d : Nat, d < k → D (gs G r d) i i := by
  intro k
  induction k with
  | zero => intro _ d hd; omega
  | succ k ih =>
    rintro ⟨m, h1, h2⟩ d hd
    have e : m = i := Int.le_antisymm (h _ _ _ h2) (pth_le h h1)
    subst e
    by_cases e2 : d = k
    · subst e2; exact h2
    · exact ih h1 d (by omega)
theorem der.toNul (hG : okG G) (h : der G n w x i j) (e : i = j) : x < 6 ∧ nul G x := by
  refine (h (fun x i j => i ≤ j ∧ (i = j → x < 6 ∧ nul G x)) (fun p p0 p1 => ⟨by omega, fun e => by omega⟩) (fun r i j r0 r1 i0 i1 hp => ⟨pth_le (fun x a b h => h.1) hp, fun e => ?_⟩)).2 e
  subst e
  have hz := (hG.2 r r0 r1)
  have := pth_flat (fun x a b h => h.1) _ hp
  refine ⟨hz.1.2, nul.rule r0 r1 (fun d d0 d1 => ?_)⟩
  have h2 := (this d.toNat (by omega)).2 rfl
  rw [show ((d.toNat : Nat) : Int) = d by omega] at h2
  exact h2
end DER
