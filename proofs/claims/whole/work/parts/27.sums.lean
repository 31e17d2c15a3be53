/-! SUMS OVER ALL WAYS TO LAY: pieces i, i+1, .. (r of them), those that are chosen on each of P places -/
theorem sumN_app (f : Nat → Nat) (a : Nat) : ∀ b, sumN f (a + b) = sumN f a + sumN (fun t => f (a + t)) b
  | 0 => rfl
  | b + 1 => by
    show sumN f (a + b) + f (a + b) = sumN f a + (sumN (fun t => f (a + t)) b + f (a + b))
    rw [sumN_app f a b]
    omega
theorem sumN_prod (f : Nat → Nat) (M : Nat) : ∀ a, sumN f (a * M) = sumN (fun s => sumN (fun t => f (s * M + t)) M) a
  | 0 => by rw [Nat.zero_mul]; rfl
  | a + 1 => by
    rw [Nat.add_mul, Nat.one_mul, sumN_app, sumN_prod f M a]
    rfl
theorem sumN_mulR (f : Nat → Nat) (c : Nat) : ∀ n, sumN (fun i => f i * c) n = sumN f n * c
  | 0 => by show 0 = 0 * c; rw [Nat.zero_mul]
  | n + 1 => by
    show sumN (fun i => f i * c) n + f n * c = (sumN f n + f n) * c
    rw [sumN_mulR f c n, Nat.add_mul]
theorem sumN_mulL (f : Nat → Nat) (c : Nat) (n : Nat) : sumN (fun i => c * f i) n = c * sumN f n := by
  rw [Nat.mul_comm, ← sumN_mulR]
  exact sumN_congr (fun i _ => Nat.mul_comm _ _)
theorem sumN_pos {f : Nat → Nat} : ∀ {n}, 0 < sumN f n ↔ ∃ i, i < n ∧ 0 < f i
  | 0 => ⟨fun h => absurd h (Nat.lt_irrefl 0), fun ⟨i, h, _⟩ => by omega⟩
  | n + 1 => by
    have ih := sumN_pos (f := f) (n := n)
    show 0 < sumN f n + f n ↔ _
    constructor
    · intro h
      by_cases h1 : 0 < sumN f n
      · obtain ⟨i, a, b⟩ := ih.mp h1
        exact ⟨i, by omega, b⟩
      · exact ⟨n, by omega, by omega⟩
    · rintro ⟨i, a, b⟩
      by_cases h1 : i = n
      · subst h1; omega
      · have := ih.mpr ⟨i, by omega, b⟩
        omega
theorem sumN_ge {f : Nat → Nat} : ∀ {n i}, i < n → f i ≤ sumN f n
  | n + 1, i, hi => by
    show f i ≤ sumN f n + f n
    by_cases h1 : i = n
    · subst h1; omega
    · have := sumN_ge (f := f) (n := n) (i := i) (by omega)
      omega
theorem cntP_sum (f : Nat → Bool) : ∀ n, cntP f n = sumN (fun i => if f i then 1 else 0) n
  | 0 => rfl
  | n + 1 => by
    show cntP f n + _ = _
    rw [cntP_sum f n]
    rfl
def prN (f : Nat → Nat) : Nat → Nat
  | 0 => 1
  | n + 1 => prN f n * f n
theorem prN_congr {f g : Nat → Nat} : ∀ {n}, (∀ i, i < n → f i = g i) → prN f n = prN g n
  | 0, _ => rfl
  | n + 1, hf => by
    unfold prN
    rw [prN_congr (fun i hi => hf i (by omega)), hf n (by omega)]
/-- a product of which one factor is a sum -/
theorem prN_sum (A : Nat → Nat → Nat) (B : Nat → Nat) (g0 P : Nat) (hA : ∀ g s, g ≠ g0 → A g s = B g) : ∀ G, g0 < G → sumN (fun s => prN (fun g => A g s) G) P = prN (fun g => if g = g0 then sumN (A g0) P else B g) G
  | 0, h => by omega
  | G + 1, h => by
    show sumN (fun s => prN (fun g => A g s) G * A G s) P = prN (fun g => if g = g0 then sumN (A g0) P else B g) G * (if G = g0 then sumN (A g0) P else B G)
    by_cases e : G = g0
    · subst e
      rw [if_pos rfl]
      have c : ∀ s, prN (fun g => A g s) G = prN B G := fun s => prN_congr (fun i hi => hA i s (by omega))
      have c2 : prN (fun g => if g = G then sumN (A G) P else B g) G = prN B G := prN_congr (fun i hi => by rw [if_neg (by omega)])
      rw [c2, ← sumN_mulL]
      exact sumN_congr (fun s _ => by rw [c s])
    · rw [if_neg e, ← prN_sum A B g0 P hA G (by omega), ← sumN_mulR]
      exact sumN_congr (fun s _ => by rw [hA G s e])
/-- one piece put on a place -/
def sv (v : Nat → Nat) (i s : Nat) : Nat → Nat := fun j => if j = i then s else v j
theorem sv_s (v : Nat → Nat) (i s : Nat) : sv v i s i = s := if_pos rfl
theorem sv_n {v : Nat → Nat} {i s j : Nat} (h : j ≠ i) : sv v i s j = v j := if_neg h
def SI (P : Nat) (sel : Nat → Bool) : Nat → Nat → (Nat → Nat) → ((Nat → Nat) → Nat) → Nat
  | 0, _, v, F => F v
  | r + 1, i, v, F => if sel i then sumN (fun s => SI P sel r (i + 1) (sv v i s) F) P else SI P sel r (i + 1) v F
theorem SI_t {P : Nat} {sel : Nat → Bool} {r i : Nat} {v : Nat → Nat} {F : (Nat → Nat) → Nat} (h : sel i = true) : SI P sel (r + 1) i v F = sumN (fun s => SI P sel r (i + 1) (sv v i s) F) P := by
  show (if sel i then _ else _) = _
  rw [if_pos h]
theorem SI_f {P : Nat} {sel : Nat → Bool} {r i : Nat} {v : Nat → Nat} {F : (Nat → Nat) → Nat} (h : sel i = false) : SI P sel (r + 1) i v F = SI P sel r (i + 1) v F := by
  show (if sel i then _ else _) = _
  rw [h, if_neg (by decide)]
/-- how many are chosen -/
def tn (sel : Nat → Bool) : Nat → Nat → Nat
  | 0, _ => 0
  | r + 1, i => tn sel r (i + 1) + (if sel i then 1 else 0)
/-- the way that has a number -/
def asg (P : Nat) (sel : Nat → Bool) : Nat → Nat → (Nat → Nat) → Nat → Nat → Nat
  | 0, _, v, _ => v
  | r + 1, i, v, n => if sel i then asg P sel r (i + 1) (sv v i (n / P ^ tn sel r (i + 1))) (n % P ^ tn sel r (i + 1)) else asg P sel r (i + 1) v n
theorem asg_t {P : Nat} {sel : Nat → Bool} {r i n : Nat} {v : Nat → Nat} (h : sel i = true) : asg P sel (r + 1) i v n = asg P sel r (i + 1) (sv v i (n / P ^ tn sel r (i + 1))) (n % P ^ tn sel r (i + 1)) := by
  show (if sel i then _ else _) = _
  rw [if_pos h]
theorem asg_f {P : Nat} {sel : Nat → Bool} {r i n : Nat} {v : Nat → Nat} (h : sel i = false) : asg P sel (r + 1) i v n = asg P sel r (i + 1) v n := by
  show (if sel i then _ else _) = _
  rw [h, if_neg (by decide)]
theorem tn_t {sel : Nat → Bool} {r i : Nat} (h : sel i = true) : tn sel (r + 1) i = tn sel r (i + 1) + 1 := by
  show _ + (if sel i then 1 else 0) = _
  rw [if_pos h]
theorem tn_f {sel : Nat → Bool} {r i : Nat} (h : sel i = false) : tn sel (r + 1) i = tn sel r (i + 1) := by
  show _ + (if sel i then 1 else 0) = _
  rw [h, if_neg (by decide), Nat.add_zero]
theorem tn_le (sel : Nat → Bool) : ∀ r i, tn sel r i ≤ r
  | 0, _ => Nat.le_refl 0
  | r + 1, i => by
    have := tn_le sel r (i + 1)
    show _ + (if sel i then 1 else 0) ≤ _
    split <;> omega
theorem tn_cnt (sel : Nat → Bool) : ∀ r i, cntP sel i + tn sel r i = cntP sel (i + r)
  | 0, _ => rfl
  | r + 1, i => by
    have ih := tn_cnt sel r (i + 1)
    rw [show i + (r + 1) = i + 1 + r by omega, ← ih]
    show cntP sel i + (tn sel r (i + 1) + _) = cntP sel i + _ + tn sel r (i + 1)
    omega
/-- the sum over all ways is the sum over their numbers -/
theorem SI_num (P : Nat) (sel : Nat → Bool) (F : (Nat → Nat) → Nat) : ∀ r i v, SI P sel r i v F = sumN (fun n => F (asg P sel r i v n)) (P ^ tn sel r i)
  | 0, i, v => by
    show F v = 0 + F v
    omega
  | r + 1, i, v => by
    cases h : sel i with
    | true =>
      rw [SI_t h, tn_t h, Nat.pow_succ, Nat.mul_comm, sumN_prod]
      refine sumN_congr (fun s _ => ?_)
      rw [SI_num P sel F r (i + 1)]
      refine sumN_congr (fun t ht => ?_)
      rw [asg_t h]
      have hp : 0 < P ^ tn sel r (i + 1) := by omega
      rw [show (s * P ^ tn sel r (i + 1) + t) / P ^ tn sel r (i + 1) = s by rw [Nat.add_comm, Nat.add_mul_div_right _ _ hp, Nat.div_eq_of_lt ht, Nat.zero_add], show (s * P ^ tn sel r (i + 1) + t) % P ^ tn sel r (i + 1) = t by rw [Nat.add_comm, Nat.add_mul_mod_self_right, Nat.mod_eq_of_lt ht]]
    | false =>
      rw [SI_f h, tn_f h, SI_num P sel F r (i + 1)]
      exact sumN_congr (fun n _ => by rw [asg_f h])
/-- a function that looks at some pieces only -/
theorem SI_congr {P : Nat} {sel : Nat → Bool} {F : (Nat → Nat) → Nat} (D : Nat → Prop) (hF : ∀ u u' : Nat → Nat, (∀ j, D j → u j = u' j) → F u = F u') : ∀ r i v v', (∀ j, D j → v j = v' j) → SI P sel r i v F = SI P sel r i v' F
  | 0, i, v, v', h => hF v v' h
  | r + 1, i, v, v', h => by
    cases hs : sel i with
    | true =>
      rw [SI_t hs, SI_t hs]
      refine sumN_congr (fun s _ => SI_congr D hF r (i + 1) _ _ (fun j hj => ?_))
      unfold sv
      split
      · rfl
      · exact h j hj
    | false =>
      rw [SI_f hs, SI_f hs]
      exact SI_congr D hF r (i + 1) v v' h
theorem SI_ext {P : Nat} {sel : Nat → Bool} {F G : (Nat → Nat) → Nat} (h : ∀ u, F u = G u) : ∀ r i v, SI P sel r i v F = SI P sel r i v G := by
  intro r i v
  rw [show F = G from funext h]
theorem SI_sel {P : Nat} {sel sel' : Nat → Bool} {F : (Nat → Nat) → Nat} : ∀ r i v, (∀ j, i ≤ j → j < i + r → sel j = sel' j) → SI P sel r i v F = SI P sel' r i v F
  | 0, i, v, _ => rfl
  | r + 1, i, v, h => by
    have h0 := h i (Nat.le_refl _) (by omega)
    cases hs : sel i with
    | true =>
      rw [SI_t hs, SI_t (by rw [← h0]; exact hs)]
      exact sumN_congr (fun s _ => SI_sel r (i + 1) _ (fun j h1 h2 => h j (by omega) (by omega)))
    | false =>
      rw [SI_f hs, SI_f (by rw [← h0]; exact hs)]
      exact SI_sel r (i + 1) _ (fun j h1 h2 => h j (by omega) (by omega))
/-- groups that have nothing to do with each other are counted each by itself -/
theorem SI_grp {P G : Nat} {sel : Nat → Bool} (gr : Nat → Nat) (F : Nat → (Nat → Nat) → Nat) (hF : ∀ g (u u' : Nat → Nat), (∀ j, gr j = g → u j = u' j) → F g u = F g u') : ∀ r i v, (∀ j, i ≤ j → j < i + r → sel j = true → gr j < G) → SI P sel r i v (fun u => prN (fun g => F g u) G) = prN (fun g => SI P (fun j => sel j && gr j == g) r i v (F g)) G
  | 0, i, v, _ => rfl
  | r + 1, i, v, hg => by
    cases hs : sel i with
    | true =>
      rw [SI_t hs]
      have ih : ∀ s, SI P sel r (i + 1) (sv v i s) (fun u => prN (fun g => F g u) G) = prN (fun g => SI P (fun j => sel j && gr j == g) r (i + 1) (sv v i s) (F g)) G := fun s => SI_grp gr F hF r (i + 1) _ (fun j h1 h2 => hg j (by omega) (by omega))
      rw [sumN_congr (fun s _ => ih s)]
      rw [prN_sum (fun g s => SI P (fun j => sel j && gr j == g) r (i + 1) (sv v i s) (F g)) (fun g => SI P (fun j => sel j && gr j == g) r (i + 1) v (F g)) (gr i) P (fun g s hne => SI_congr (fun j => gr j = g) (hF g) r (i + 1) _ _ (fun j hj => sv_n (fun q => hne (by rw [← hj, q])))) G (hg i (Nat.le_refl _) (by omega) hs)]
      refine prN_congr (fun g _ => ?_)
      by_cases e : g = gr i
      · rw [if_pos e, SI_t (show (sel i && gr i == g) = true by rw [hs, e]; simp), e]
      · rw [if_neg e, SI_f (show (sel i && gr i == g) = false by rw [hs, Bool.true_and]; exact beq_eq_false_iff_ne.mpr (fun q => e q.symm))]
    | false =>
      rw [SI_f hs, SI_grp gr F hF r (i + 1) v (fun j h1 h2 => hg j (by omega) (by omega))]
      refine prN_congr (fun g _ => ?_)
      rw [SI_f (show (sel i && gr i == g) = false by rw [hs]; rfl)]
/-- u goes on from v -/
def Cm (P : Nat) (sel : Nat → Bool) (r i : Nat) (v u : Nat → Nat) : Prop := (∀ j, (i ≤ j ∧ j < i + r ∧ sel j = true) ∨ u j = v j) ∧ ∀ j, i ≤ j → j < i + r → sel j = true → u j < P
theorem Cm_0 {P : Nat} {sel : Nat → Bool} {i : Nat} {v u : Nat → Nat} : Cm P sel 0 i v u ↔ u = v := by
  constructor
  · rintro ⟨h1, -⟩
    funext j
    rcases h1 j with ⟨a, b, -⟩ | h
    · omega
    · exact h
  · rintro rfl
    exact ⟨fun j => Or.inr rfl, fun j h1 h2 => by omega⟩
theorem Cm_t {P : Nat} {sel : Nat → Bool} {r i : Nat} {v u : Nat → Nat} (h : sel i = true) : Cm P sel (r + 1) i v u ↔ u i < P ∧ Cm P sel r (i + 1) (sv v i (u i)) u := by
  constructor
  · rintro ⟨h1, h2⟩
    refine ⟨h2 i (Nat.le_refl _) (by omega) h, fun j => ?_, fun j a b => h2 j (by omega) (by omega)⟩
    by_cases e : j = i
    · right; rw [e, sv_s]
    · rcases h1 j with ⟨a, b, c⟩ | c
      · left; exact ⟨by omega, by omega, c⟩
      · right; rw [sv_n e]; exact c
  · rintro ⟨h0, h1, h2⟩
    refine ⟨fun j => ?_, fun j a b c => ?_⟩
    · by_cases e : j = i
      · left; rw [e]; exact ⟨Nat.le_refl _, by omega, h⟩
      · rcases h1 j with ⟨a, b, c⟩ | c
        · left; exact ⟨by omega, by omega, c⟩
        · right; rw [sv_n e] at c; exact c
    · by_cases e : j = i
      · rw [e]; exact h0
      · exact h2 j (by omega) (by omega) c
theorem Cm_f {P : Nat} {sel : Nat → Bool} {r i : Nat} {v u : Nat → Nat} (h : sel i = false) : Cm P sel (r + 1) i v u ↔ Cm P sel r (i + 1) v u := by
  constructor
  · rintro ⟨h1, h2⟩
    refine ⟨fun j => ?_, fun j a b => h2 j (by omega) (by omega)⟩
    rcases h1 j with ⟨a, b, c⟩ | c
    · left
      have : j ≠ i := fun e => by rw [e, h] at c; exact absurd c (by decide)
      exact ⟨by omega, by omega, c⟩
    · right; exact c
  · rintro ⟨h1, h2⟩
    refine ⟨fun j => ?_, fun j a b c => ?_⟩
    · rcases h1 j with ⟨a, b, c⟩ | c
      · left; exact ⟨by omega, by omega, c⟩
      · right; exact c
    · have : j ≠ i := fun e => by rw [e, h] at c; exact absurd c (by decide)
      exact h2 j (by omega) (by omega) c
theorem SI_pos {P : Nat} {sel : Nat → Bool} {F : (Nat → Nat) → Nat} : ∀ {r i v}, 0 < SI P sel r i v F ↔ ∃ u, Cm P sel r i v u ∧ 0 < F u
  | 0, i, v => by
    constructor
    · intro h; exact ⟨v, Cm_0.mpr rfl, h⟩
    · rintro ⟨u, h1, h2⟩
      rw [Cm_0.mp h1] at h2
      exact h2
  | r + 1, i, v => by
    cases hs : sel i with
    | true =>
      rw [SI_t hs, sumN_pos]
      constructor
      · rintro ⟨s, h1, h2⟩
        obtain ⟨u, h3, h4⟩ := SI_pos.mp h2
        have e : u i = s := by
          rcases h3.1 i with ⟨a, -⟩ | h
          · omega
          · rw [h, sv_s]
        exact ⟨u, (Cm_t hs).mpr ⟨by rw [e]; exact h1, by rw [e]; exact h3⟩, h4⟩
      · rintro ⟨u, h1, h2⟩
        have h3 := (Cm_t hs).mp h1
        exact ⟨u i, h3.1, SI_pos.mpr ⟨u, h3.2, h2⟩⟩
    | false =>
      rw [SI_f hs, SI_pos]
      exact ⟨fun ⟨u, h1, h2⟩ => ⟨u, (Cm_f hs).mpr h1, h2⟩, fun ⟨u, h1, h2⟩ => ⟨u, (Cm_f hs).mp h1, h2⟩⟩
/-- each way has its number -/
theorem asg_of {P : Nat} {sel : Nat → Bool} : ∀ {r i v u}, Cm P sel r i v u → ∃ n, n < P ^ tn sel r i ∧ asg P sel r i v n = u
  | 0, i, v, u, h => ⟨0, show 0 < P ^ 0 by rw [Nat.pow_zero]; decide, (Cm_0.mp h).symm⟩
  | r + 1, i, v, u, h => by
    cases hs : sel i with
    | true =>
      obtain ⟨h0, h1⟩ := (Cm_t hs).mp h
      obtain ⟨n, h2, h3⟩ := asg_of h1
      have hp : 0 < P ^ tn sel r (i + 1) := by omega
      refine ⟨u i * P ^ tn sel r (i + 1) + n, ?_, ?_⟩
      · rw [tn_t hs, Nat.pow_succ, Nat.mul_comm (P ^ _) P]
        have : (u i + 1) * P ^ tn sel r (i + 1) ≤ P * P ^ tn sel r (i + 1) := Nat.mul_le_mul_right _ h0
        rw [Nat.add_mul, Nat.one_mul] at this
        omega
      · rw [asg_t hs]
        rw [show (u i * P ^ tn sel r (i + 1) + n) / P ^ tn sel r (i + 1) = u i by rw [Nat.add_comm, Nat.add_mul_div_right _ _ hp, Nat.div_eq_of_lt h2, Nat.zero_add], show (u i * P ^ tn sel r (i + 1) + n) % P ^ tn sel r (i + 1) = n by rw [Nat.add_comm, Nat.add_mul_mod_self_right, Nat.mod_eq_of_lt h2]]
        exact h3
    | false =>
      obtain ⟨n, h2, h3⟩ := asg_of ((Cm_f hs).mp h)
      exact ⟨n, by rw [tn_f hs]; exact h2, by rw [asg_f hs]; exact h3⟩
theorem asg_cm {P : Nat} {sel : Nat → Bool} : ∀ {r i v n}, n < P ^ tn sel r i → Cm P sel r i v (asg P sel r i v n)
  | 0, i, v, n, h => Cm_0.mpr rfl
  | r + 1, i, v, n, h => by
    cases hs : sel i with
    | true =>
      rw [tn_t hs, Nat.pow_succ] at h
      have hp : 0 < P ^ tn sel r (i + 1) := by
        rcases Nat.eq_zero_or_pos (P ^ tn sel r (i + 1)) with z | z
        · rw [z, Nat.zero_mul] at h; omega
        · exact z
      have ih := asg_cm (P := P) (sel := sel) (r := r) (i := i + 1) (v := sv v i (n / P ^ tn sel r (i + 1))) (Nat.mod_lt n hp)
      rw [asg_t hs]
      have e : asg P sel r (i + 1) (sv v i (n / P ^ tn sel r (i + 1))) (n % P ^ tn sel r (i + 1)) i = n / P ^ tn sel r (i + 1) := by
        rcases ih.1 i with ⟨a, -⟩ | h
        · omega
        · rw [h, sv_s]
      refine (Cm_t hs).mpr ⟨?_, ?_⟩
      · rw [e]
        exact (Nat.div_lt_iff_lt_mul hp).mpr (by rw [Nat.mul_comm]; exact h)
      · rw [e]; exact ih
    | false =>
      rw [tn_f hs] at h
      rw [asg_f hs]
      exact (Cm_f hs).mpr (asg_cm h)
