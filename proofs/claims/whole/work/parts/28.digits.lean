/-! NUMBERS BY THEIR DIGITS: how the reference counts the ways through -/
def vD (P : Nat) (d : Nat → Nat) : Nat → Nat → Nat
  | _, 0 => 0
  | j, r + 1 => d j * P ^ r + vD P d (j + 1) r
theorem vD_lt {P : Nat} {d : Nat → Nat} : ∀ {r j}, (∀ x, j ≤ x → x < j + r → d x < P) → vD P d j r < P ^ r
  | 0, j, _ => by show 0 < P ^ 0; rw [Nat.pow_zero]; decide
  | r + 1, j, h => by
    have ih := vD_lt (P := P) (d := d) (r := r) (j := j + 1) (fun x h1 h2 => h x (by omega) (by omega))
    have h0 := h j (Nat.le_refl _) (by omega)
    show d j * P ^ r + vD P d (j + 1) r < _
    rw [Nat.pow_succ, Nat.mul_comm (P ^ r) P]
    have : (d j + 1) * P ^ r ≤ P * P ^ r := Nat.mul_le_mul_right _ h0
    rw [Nat.add_mul, Nat.one_mul] at this
    omega
theorem vD_congr {P : Nat} {d d' : Nat → Nat} : ∀ {r j}, (∀ x, j ≤ x → x < j + r → d x = d' x) → vD P d j r = vD P d' j r
  | 0, j, _ => rfl
  | r + 1, j, h => by
    show d j * P ^ r + vD P d (j + 1) r = d' j * P ^ r + vD P d' (j + 1) r
    rw [h j (Nat.le_refl _) (by omega), vD_congr (fun x h1 h2 => h x (by omega) (by omega))]
theorem vD_zero {P : Nat} {d : Nat → Nat} : ∀ {r j}, (∀ x, j ≤ x → x < j + r → d x = 0) → vD P d j r = 0
  | 0, j, _ => rfl
  | r + 1, j, h => by
    show d j * P ^ r + vD P d (j + 1) r = 0
    rw [h j (Nat.le_refl _) (by omega), vD_zero (fun x h1 h2 => h x (by omega) (by omega)), Nat.zero_mul]
theorem vD_max {P : Nat} {d : Nat → Nat} (hP : 0 < P) : ∀ {r j}, (∀ x, j ≤ x → x < j + r → d x + 1 = P) → vD P d j r + 1 = P ^ r
  | 0, j, _ => by show 0 + 1 = P ^ 0; rw [Nat.pow_zero]
  | r + 1, j, h => by
    have ih := vD_max hP (r := r) (j := j + 1) (fun x h1 h2 => h x (by omega) (by omega))
    have h0 := h j (Nat.le_refl _) (by omega)
    show d j * P ^ r + vD P d (j + 1) r + 1 = _
    rw [Nat.pow_succ, Nat.mul_comm (P ^ r) P, ← h0, Nat.add_mul, Nat.one_mul, h0]
    omega
/-- the next number: behind digit t all were the highest, and are 0 now -/
theorem vD_inc {P : Nat} {d d' : Nat → Nat} {t : Nat} (hP : 0 < P) (ht : d' t = d t + 1) : ∀ {r j}, j ≤ t → t < j + r → (∀ x, j ≤ x → x < t → d' x = d x) → (∀ x, t < x → x < j + r → d x + 1 = P ∧ d' x = 0) → vD P d' j r = vD P d j r + 1
  | 0, j, h1, h2, _, _ => by omega
  | r + 1, j, h1, h2, h3, h4 => by
    show d' j * P ^ r + vD P d' (j + 1) r = d j * P ^ r + vD P d (j + 1) r + 1
    by_cases e : j = t
    · subst e
      have z := vD_zero (P := P) (d := d') (r := r) (j := j + 1) (fun x a b => (h4 x (by omega) (by omega)).2)
      have m := vD_max hP (d := d) (r := r) (j := j + 1) (fun x a b => (h4 x (by omega) (by omega)).1)
      rw [z, ht, Nat.add_mul, Nat.one_mul]
      omega
    · rw [h3 j (Nat.le_refl _) (by omega), vD_inc hP ht (r := r) (j := j + 1) (by omega) (by omega) (fun x a b => h3 x (by omega) b) (fun x a b => h4 x a (by omega))]
      omega
/-- where the pieces lie in the way of this number -/
theorem asg_dig {P : Nat} {sel : Nat → Bool} {d : Nat → Nat} : ∀ {r i v}, (∀ x, cntP sel i ≤ x → x < cntP sel i + tn sel r i → d x < P) → ∀ p, asg P sel r i v (vD P d (cntP sel i) (tn sel r i)) p = if i ≤ p ∧ p < i + r ∧ sel p = true then d (cntP sel p) else v p
  | 0, i, v, _, p => by
    rw [if_neg (by omega)]
    rfl
  | r + 1, i, v, h, p => by
    cases hs : sel i with
    | true =>
      rw [tn_t hs] at h ⊢
      have hc : cntP sel (i + 1) = cntP sel i + 1 := cntP_t hs
      have hl : vD P d (cntP sel i + 1) (tn sel r (i + 1)) < P ^ tn sel r (i + 1) := vD_lt (fun x a b => h x (by omega) (by omega))
      have hp : 0 < P ^ tn sel r (i + 1) := by omega
      rw [asg_t hs, show vD P d (cntP sel i) (tn sel r (i + 1) + 1) = d (cntP sel i) * P ^ tn sel r (i + 1) + vD P d (cntP sel i + 1) (tn sel r (i + 1)) from rfl]
      generalize hV : vD P d (cntP sel i + 1) (tn sel r (i + 1)) = V at hl ⊢
      rw [show (d (cntP sel i) * P ^ tn sel r (i + 1) + V) / P ^ tn sel r (i + 1) = d (cntP sel i) by rw [Nat.add_comm, Nat.add_mul_div_right _ _ hp, Nat.div_eq_of_lt hl, Nat.zero_add], show (d (cntP sel i) * P ^ tn sel r (i + 1) + V) % P ^ tn sel r (i + 1) = V by rw [Nat.add_comm, Nat.add_mul_mod_self_right, Nat.mod_eq_of_lt hl]]
      rw [← hV, ← hc, asg_dig (r := r) (i := i + 1) (fun x a b => h x (by omega) (by omega)) p]
      by_cases e : p = i
      · subst e
        rw [if_neg (by omega), if_pos ⟨Nat.le_refl _, by omega, hs⟩, sv_s]
      · rw [sv_n e]
        by_cases c : i + 1 ≤ p ∧ p < i + 1 + r ∧ sel p = true
        · rw [if_pos c, if_pos ⟨by omega, by omega, c.2.2⟩]
        · rw [if_neg c, if_neg (fun q => c ⟨by omega, by omega, q.2.2⟩)]
    | false =>
      rw [tn_f hs] at h ⊢
      have hc : cntP sel (i + 1) = cntP sel i := cntP_f hs
      rw [asg_f hs, ← hc, asg_dig (r := r) (i := i + 1) (fun x a b => h x (by omega) (by omega)) p]
      by_cases c : i + 1 ≤ p ∧ p < i + 1 + r ∧ sel p = true
      · rw [if_pos c, if_pos ⟨by omega, by omega, c.2.2⟩]
      · rw [if_neg c, if_neg (fun q => c ⟨by
          rcases (show i = p ∨ i + 1 ≤ p by omega) with e | e
          · rw [← e, hs] at q; exact absurd q.2.2 (by decide)
          · exact e, by omega, q.2.2⟩)]
/-- a sum over the chosen ones, by their rank -/
theorem sum_rank (sel : Nat → Bool) (f : Nat → Nat) : ∀ n, sumN (fun i => if sel i then f (cntP sel i) else 0) n = sumN f (cntP sel n)
  | 0 => rfl
  | n + 1 => by
    show sumN (fun i => if sel i then f (cntP sel i) else 0) n + (if sel n then f (cntP sel n) else 0) = _
    rw [sum_rank sel f n]
    cases hs : sel n with
    | true => rw [cntP_t hs, if_pos rfl]; rfl
    | false => rw [cntP_f hs, if_neg (by decide), Nat.add_zero]
theorem cntP_mono (f : Nat → Bool) {a b : Nat} (h : a ≤ b) : cntP f a ≤ cntP f b := by
  have := tn_cnt f (b - a) a
  rw [show a + (b - a) = b by omega] at this
  omega
theorem cntP_lt {f : Nat → Bool} {a b : Nat} (h : a < b) (hf : f a = true) : cntP f a < cntP f b := by
  have h1 := cntP_mono f (show a + 1 ≤ b by omega)
  rw [cntP_t hf] at h1
  omega
theorem cntP_inj {f : Nat → Bool} {a b : Nat} (ha : f a = true) (hb : f b = true) (h : cntP f a = cntP f b) : a = b := by
  rcases Nat.lt_trichotomy a b with q | q | q
  · have := cntP_lt q ha; omega
  · exact q
  · have := cntP_lt q hb; omega
