/-! PURE PART. Reading and writing at known places; loops; small numbers -/
theorem lay_len : ∀ k, k < 55 → alen k < 5000 := by decide +kernel
theorem alen_of {k n : Nat} {z : Bool} (hk : lay[k]? = some (.inl (z, n))) : n < 5000 := by
  have h1 := lay_len k (lay_lt hk)
  unfold alen at h1
  rw [hk] at h1
  exact h1
theorem inA_ok {z : Bool} {k n j : Nat} (hk : lay[k]? = some (.inl (z, n))) (hj : j < n) : inA z k (nI j) = true := by
  have h1 := alen_of hk
  unfold inA
  rw [hk]
  have h2 : (0 : Int32) ≤ nI j := nI_pos' (by omega)
  have h3 : (nI j).toNatClampNeg = j := nI_clamp (by omega)
  simp only [h3, beq_self_eq_true, Bool.true_and, Bool.and_eq_true, decide_eq_true_eq]
  exact ⟨h2, hj⟩
theorem rd_at {h : Hp} {k : Nat} {i : Int32} {f : Int32 → RO} (j n : Nat) (hk : lay[k]? = some (.inl (false, n))) (hi : i = nI j) (hj : j < n) : rd h k i f = f (h k j) := by
  subst hi
  have h1 := alen_of hk
  unfold rd
  rw [inA_ok hk hj, nI_clamp (by omega)]
  rfl
theorem rdz_at {h : Hp} {k : Nat} {i : Int32} {f : Int32 → RO} (j n : Nat) (hk : lay[k]? = some (.inl (true, n))) (hi : i = nI j) (hj : j < n) : rdz h k i f = f (h k j) := by
  subst hi
  have h1 := alen_of hk
  unfold rdz
  rw [inA_ok hk hj, nI_clamp (by omega)]
  rfl
theorem wr_at {h : Hp} {k : Nat} {i v : Int32} {f : Hp → RO} (j n : Nat) (hk : lay[k]? = some (.inl (false, n))) (hi : i = nI j) (hj : j < n) : wr h k i v f = f (up h k j v) := by
  subst hi
  have h1 := alen_of hk
  unfold wr
  rw [inA_ok hk hj, nI_clamp (by omega)]
  rfl
theorem wrz_at {h : Hp} {k : Nat} {i v : Int32} {f : Hp → RO} (j n : Nat) (hk : lay[k]? = some (.inl (true, n))) (hi : i = nI j) (hj : j < n) (hv : v = 0 ∨ v = 1) : wrz h k i v f = f (up h k j v) := by
  subst hi
  have h1 := alen_of hk
  unfold wrz
  rw [if_pos hv, inA_ok hk hj, nI_clamp (by omega)]
  rfl
theorem cal_some {r : Int32} {h : Hp} {f : Int32 → Hp → RO} : cal (some (r, h)) f = f r h := rfl
/-- yes or no as a number -/
def bI (b : Bool) : Int32 := if b then 1 else 0
theorem bI_t : bI true = 1 := rfl
theorem bI_f : bI false = 0 := rfl
theorem bI_01 (b : Bool) : bI b = 0 ∨ bI b = 1 := by cases b <;> simp [bI]
theorem retz_b (b : Bool) (h : Hp) : retz (bI b) h = some (bI b, h) := by cases b <;> rfl
theorem retz_0 (h : Hp) : retz 0 h = some (0, h) := rfl
theorem retz_1 (h : Hp) : retz 1 h = some (1, h) := rfl
theorem bI_eq0 (b : Bool) : (bI b = 0) ↔ b = false := by cases b <;> simp [bI]
theorem bI_eq1 (b : Bool) : (bI b = 1) ↔ b = true := by cases b <;> simp [bI]
theorem if_b0 (b : Bool) (A B : RO) : (if bI b = 0 then A else B) = bif b then B else A := by cases b <;> simp [bI]
theorem if_b1 (b : Bool) (A B : RO) : (if bI b = 1 then A else B) = bif b then A else B := by cases b <;> simp [bI]
/-- a loop with an invariant: it goes on, or it has what is wanted -/
theorem loopI {α : Type} (L : Nat → α → RO) (I : Nat → α → Prop) (Q : RO → Prop) (e : Nat)
    (hs : ∀ i a n, i < e → I i a → (∃ a', I (i + 1) a' ∧ L (n + 1) a = L n a') ∨ Q (L (n + 1) a))
    (hx : ∀ a n, I e a → Q (L (n + 1) a)) : ∀ (n i : Nat) (a : α), i ≤ e → e - i < n → I i a → Q (L n a) := by
  intro n
  induction n with
  | zero => intro i a h1 h2; omega
  | succ n ih =>
    intro i a h1 h2 hI
    rcases Nat.lt_or_ge i e with h | h
    · rcases hs i a n h hI with ⟨a', h3, h4⟩ | h3
      · rw [h4]
        exact ih (i + 1) a' (by omega) (by omega) h3
      · exact h3
    · have he : i = e := by omega
      subst he
      exact hx a n hI
theorem loopF {α : Type} (L : Nat → α → RO) (I : Nat → α → Prop) (Q : RO → Prop) (e : Nat) (he : e < 99999)
    (hs : ∀ i a n, i < e → I i a → (∃ a', I (i + 1) a' ∧ L (n + 1) a = L n a') ∨ Q (L (n + 1) a))
    (hx : ∀ a n, I e a → Q (L (n + 1) a)) (i : Nat) (a : α) (hi : i ≤ e) (ha : I i a) : Q (L FU a) := loopI L I Q e hs hx FU i a hi (by unfold FU; omega) ha
/-- a loop with an invariant, what comes behind a round taken as known -/
theorem loopK {α : Type} (L : Nat → α → RO) (I : Nat → α → Prop) (Q : RO → Prop) (e : Nat) (he : e < 99999)
    (hs : ∀ i a n, i < e → I i a → (∀ a', I (i + 1) a' → Q (L n a')) → Q (L (n + 1) a))
    (hx : ∀ a n, I e a → Q (L (n + 1) a)) (i : Nat) (a : α) (hi : i ≤ e) (ha : I i a) : Q (L FU a) := by
  have key : ∀ (n i : Nat) (a : α), i ≤ e → e - i < n → I i a → Q (L n a) := by
    intro n
    induction n with
    | zero => intro i a h1 h2; omega
    | succ n ih =>
      intro i a h1 h2 hI
      rcases Nat.lt_or_ge i e with h | h
      · exact hs i a n h hI (fun a' h3 => ih (i + 1) a' (by omega) (by omega) h3)
      · have he : i = e := by omega
        subst he
        exact hx a n hI
  exact key FU i a hi (by unfold FU; omega) ha
/-- a loop whose states are known -/
theorem loopS {α : Type} (L : Nat → α → RO) (st : Nat → α) (X : RO) (e : Nat) (he : e < 99999) (hs : ∀ i n, i < e → L (n + 1) (st i) = L n (st (i + 1))) (hx : ∀ n, L (n + 1) (st e) = X) (i : Nat) (hi : i ≤ e) : L FU (st i) = X :=
  loopF L (fun i a => a = st i) (fun o => o = X) e he (fun i a n h1 h2 => Or.inl ⟨st (i + 1), rfl, by rw [h2]; exact hs i n h1⟩) (fun a n h => by rw [h]; exact hx n) i (st i) hi rfl
-- numbers
theorem n_lit (n : Nat) : (OfNat.ofNat n : Int32) = nI n := rfl
theorem n_mul (a b : Nat) : nI a * nI b = nI (a * b) := pk_mul a b
theorem n_ix {c w m : Nat} {W Mm : Int32} (hM : Mm = nI m) (hW : W = nI w) : nI c * Mm + W = nI (m * c + w) := by
  rw [hM, hW, pk_mul, nI_add, Nat.mul_comm]
theorem n_ix' {c w m : Nat} {W Mm : Int32} (hM : Mm = nI m) (hW : W = nI w) : Mm * nI c + W = nI (m * c + w) := by
  rw [hM, hW, pk_mul, nI_add]
theorem n_addl {a b : Nat} {B : Int32} (hB : B = nI b) : nI a + B = nI (a + b) := by rw [hB, nI_add]
theorem n_s1 (a : Nat) : nI a + 1 = nI (a + 1) := nI_1 a
theorem n_le {a b : Nat} {X Y : Int32} (hX : X = nI a) (hY : Y = nI b) (ha : a < 2 ^ 31) (hb : b < 2 ^ 31) : X ≤ Y ↔ a ≤ b := by subst hX; subst hY; exact nI_leI ha hb
theorem n_lt {a b : Nat} {X Y : Int32} (hX : X = nI a) (hY : Y = nI b) (ha : a < 2 ^ 31) (hb : b < 2 ^ 31) : X < Y ↔ a < b := by subst hX; subst hY; exact nI_ltI ha hb
theorem n_eq {a b : Nat} {X Y : Int32} (hX : X = nI a) (hY : Y = nI b) (ha : a < 2 ^ 31) (hb : b < 2 ^ 31) : X = Y ↔ a = b := by subst hX; subst hY; exact nI_eq ha hb
/-- between two bounds -/
def wn (x a b : Int32) : Bool := decide (a ≤ x) && decide (x ≤ b)
theorem isWithin_eq (h : Hp) (x a b : Int32) : fX_isWithin h x a b = some (bI (wn x a b), h) := by
  unfold fX_isWithin wn
  by_cases h1 : x < a
  · rw [if_pos h1, show decide (a ≤ x) = false from decide_eq_false (Int32.not_le.mpr h1)]; rfl
  · rw [if_neg h1]
    by_cases h2 : b < x
    · rw [if_pos h2, show decide (x ≤ b) = false from decide_eq_false (Int32.not_le.mpr h2), Bool.and_false]; rfl
    · rw [if_neg h2, show decide (x ≤ b) = true from decide_eq_true (Int32.not_lt.mp h2), show decide (a ≤ x) = true from decide_eq_true (Int32.not_lt.mp h1)]; rfl
theorem in_eq (h : Hp) (x a b : Int32) : fM_in h x a b = some (bI (wn x a b), h) := isWithin_eq h x a b
theorem wn_nat {x A B : Int32} {a b : Nat} (hA : A = nI a) (hB : B = nI b) (ha : a < 2 ^ 31) (hb : b < 2 ^ 31) : wn x A B = true ↔ ∃ j : Nat, a ≤ j ∧ j ≤ b ∧ x = nI j := by
  subst hA; subst hB
  unfold wn
  rw [Bool.and_eq_true, decide_eq_true_eq, decide_eq_true_eq]
  constructor
  · rintro ⟨h1, h2⟩
    have h3 : ¬ x < 0 := by
      intro h4
      rw [Int32.lt_iff_toInt_lt] at h4
      rw [Int32.le_iff_toInt_le, nI_toInt ha] at h1
      have : (0 : Int32).toInt = 0 := rfl
      omega
    obtain ⟨j, hj, rfl⟩ := nI_of h3
    exact ⟨j, (nI_leI ha hj).mp h1, (nI_leI hj hb).mp h2, rfl⟩
  · rintro ⟨j, h1, h2, rfl⟩
    exact ⟨(nI_leI ha (by omega)).mpr h1, (nI_leI (by omega) hb).mpr h2⟩
/-- below a count: the last one is one less -/
theorem wn_cnt {x : Int32} {n : Nat} (hn : n < 2 ^ 30) : wn x 0 (nI n - 1) = true ↔ ∃ j : Nat, j < n ∧ x = nI j := by
  cases n with
  | zero =>
    constructor
    · intro h
      unfold wn at h
      rw [Bool.and_eq_true, decide_eq_true_eq, decide_eq_true_eq] at h
      have h1 := Int32.le_trans h.1 h.2
      exact absurd h1 (by decide)
    · rintro ⟨j, h1, -⟩
      omega
  | succ n =>
    rw [nI_pred]
    rw [wn_nat (A := 0) (a := 0) (b := n) rfl rfl (by omega) (by omega)]
    constructor
    · rintro ⟨j, -, h2, h3⟩
      exact ⟨j, by omega, h3⟩
    · rintro ⟨j, h2, h3⟩
      exact ⟨j, by omega, by omega, h3⟩
theorem wn_cnt_t {n j : Nat} (hn : n < 2 ^ 30) (hj : j < n) : wn (nI j) 0 (nI n - 1) = true := (wn_cnt hn).mpr ⟨j, hj, rfl⟩
-- bits
theorem bit_is {a m : Nat} (ha : a < 2 ^ 31) (hm : m < 31) : ((nI a >>> (nI m &&& 31)) &&& 1 = 1) ↔ a.testBit m = true := by
  have hs : ∀ m, m < 31 → ((nI m &&& 31).toBitVec.smod 32).toNat = m := by decide +kernel
  rw [pk_shrN ha (nI m &&& 31) m (hs m hm)]
  have h2 : a / 2 ^ m < 2 ^ 31 := Nat.lt_of_le_of_lt (Nat.div_le_self _ _) ha
  rw [pk_andN (by omega) 1 (by decide)]
  rw [show (1 : Int32) = nI 1 from rfl, nI_eq (by omega) (by omega)]
  rw [Nat.testBit_eq_decide_div_mod_eq]
  simp
theorem isIn_eq {h : Hp} {a m : Nat} (ha : a < 2 ^ 31) (hm : m < 31) : fX_isIn h (nI a) (nI m) = some (bI (a.testBit m), h) := by
  unfold fX_isIn
  by_cases hb : a.testBit m = true
  · rw [if_pos ((bit_is ha hm).mpr hb), hb]; rfl
  · rw [if_neg (fun q => hb ((bit_is ha hm).mp q)), show a.testBit m = false by simpa using hb]; rfl
/-- the number whose bits these are -/
def msk (f : Nat → Bool) : Nat → Nat
  | 0 => 0
  | n + 1 => msk f n + (if f n then 2 ^ n else 0)
theorem msk_lt (f : Nat → Bool) : ∀ n, msk f n < 2 ^ n
  | 0 => by simp [msk]
  | n + 1 => by
    have := msk_lt f n
    unfold msk
    rw [Nat.pow_succ]
    split <;> omega
theorem msk_bit (f : Nat → Bool) : ∀ n i, (msk f n).testBit i = (decide (i < n) && f i)
  | 0, i => by simp [msk]
  | n + 1, i => by
    have ih := msk_bit f n
    have hl := msk_lt f n
    unfold msk
    by_cases hf : f n = true
    · rw [if_pos hf, Nat.add_comm]
      rcases Nat.lt_trichotomy i n with h | h | h
      · rw [Nat.testBit_two_pow_add_gt h, ih]
        simp [h, show i < n + 1 by omega]
      · subst h
        rw [Nat.testBit_two_pow_add_eq, ih]
        simp [hf]
      · have h1 : 2 ^ n + msk f n < 2 ^ i := Nat.lt_of_lt_of_le (show 2 ^ n + msk f n < 2 ^ (n + 1) by rw [Nat.pow_succ]; omega) (Nat.pow_le_pow_right (by decide) h)
        rw [Nat.testBit_lt_two_pow h1]
        simp [show ¬ i < n + 1 by omega]
    · rw [if_neg hf, Nat.add_zero, ih]
      rcases Nat.lt_trichotomy i n with h | h | h
      · simp [h, show i < n + 1 by omega]
      · subst h
        simp [hf]
      · simp [show ¬ i < n by omega, show ¬ i < n + 1 by omega]
theorem msk_ext {f g : Nat → Bool} : ∀ {n : Nat}, (∀ i, i < n → f i = g i) → msk f n = msk g n
  | 0, _ => rfl
  | n + 1, h => by unfold msk; rw [msk_ext (fun i hi => h i (by omega)), h n (by omega)]
theorem nat_ext {a b n : Nat} (ha : a < 2 ^ n) (hb : b < 2 ^ n) (h : ∀ i, i < n → a.testBit i = b.testBit i) : a = b := by
  apply Nat.eq_of_testBit_eq
  intro i
  rcases Nat.lt_or_ge i n with h1 | h1
  · exact h i h1
  · rw [Nat.testBit_lt_two_pow (Nat.lt_of_lt_of_le ha (Nat.pow_le_pow_right (by decide) h1)), Nat.testBit_lt_two_pow (Nat.lt_of_lt_of_le hb (Nat.pow_le_pow_right (by decide) h1))]
theorem n_or (a b : Nat) : nI a ||| nI b = nI (a ||| b) := by
  apply Int32.toBitVec_inj.mp
  show BitVec.ofNat 32 a ||| BitVec.ofNat 32 b = BitVec.ofNat 32 (a ||| b)
  apply BitVec.eq_of_getLsbD_eq
  intro i hi
  simp [BitVec.getLsbD_ofNat, hi]
theorem n_and (a b : Nat) : nI a &&& nI b = nI (a &&& b) := by
  apply Int32.toBitVec_inj.mp
  show BitVec.ofNat 32 a &&& BitVec.ofNat 32 b = BitVec.ofNat 32 (a &&& b)
  apply BitVec.eq_of_getLsbD_eq
  intro i hi
  simp [BitVec.getLsbD_ofNat, hi]
theorem n_xor (a b : Nat) : nI a ^^^ nI b = nI (a ^^^ b) := by
  apply Int32.toBitVec_inj.mp
  show BitVec.ofNat 32 a ^^^ BitVec.ofNat 32 b = BitVec.ofNat 32 (a ^^^ b)
  apply BitVec.eq_of_getLsbD_eq
  intro i hi
  simp [BitVec.getLsbD_ofNat, hi]
theorem n_shl {a m : Nat} (hm : m < 31) (h : a * 2 ^ m < 2 ^ 32) : nI a <<< (nI m &&& 31) = nI (a * 2 ^ m) := by
  have hs : ∀ m, m < 31 → ((nI m &&& 31).toBitVec.smod 32).toNat = m := by decide +kernel
  exact pk_shlN (nI m &&& 31) m (hs m hm) h
theorem n_one_shl {m : Nat} (hm : m < 31) : (1 : Int32) <<< (nI m &&& 31) = nI (2 ^ m) := by
  have := n_shl (a := 1) hm (by rw [Nat.one_mul]; exact Nat.pow_lt_pow_right (by decide) (by omega))
  rwa [Nat.one_mul] at this
/-- how many bits -/
def pop (a : Nat) : Nat → Nat
  | 0 => 0
  | n + 1 => pop a n + (if a.testBit n then 1 else 0)
def bcI (x0 : Int32) : Int32 :=
  let v9 := x0 - ((ush x0 1) &&& 1431655765)
  let v23 := (v9 &&& 858993459) + ((ush v9 2) &&& 858993459)
  let v33 := (v23 + (ush v23 4)) &&& 252645135
  let v40 := v33 + (ush v33 8)
  let v47 := v40 + (ush v40 16)
  v47 &&& 63
theorem bc_512 : ∀ a, a < 512 → bcI (nI a) = nI (pop a 9) := by decide +kernel
theorem bitCount_eq {h : Hp} {a : Nat} (ha : a < 512) : fJ_bitCount h (nI a) = some (nI (pop a 9), h) := by
  rw [← bc_512 a ha]
  rfl
