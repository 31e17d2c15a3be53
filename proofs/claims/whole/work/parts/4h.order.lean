/-! THE REFERENCE'S LINE; HOW MANY ARE SURE ON A PLACE -/
section Order
variable {σ : Sg} {h : Hp}
theorem minsert_K {Q : RO → Prop} {K : Int32 → Hp → RO} {c s : Nat} {l : Nat → Nat} {x1 : Int32} (w : WF σ) (ms : MS σ h) (hc : c < σ 0 3) (hs : s < 5) (hl : ∀ i, i < s → h 54 i = nI (l i) ∧ l i < σ 0 3) (hK : ∀ a h', a ≤ s → (∀ k, k ≠ 54 → h' k = h k) → (∀ i, i ≤ s → upd (h' 54) a (nI c) i = nI (insF (σ 10) c l s i)) → Q (K (nI a) h')) : Q (fM_findOrder_L32 K x1 (nI c) FU (nI s) h) := by
  have c30 := w.nc_le
  have w99 : ∀ q, q < σ 0 3 → σ 10 q ≤ 99 := fun q hq => (w.2.2.2.2.1 q hq).2.2.2.1
  have key : ∀ (n a : Nat) (h' : Hp) (l' : Nat → Nat), a < n → a ≤ s → (∀ k, k ≠ 54 → h' k = h k) → (∀ i, i ≤ s → i ≠ a → h' 54 i = nI (l' i) ∧ l' i < σ 0 3) → insF (σ 10) c l' a = insF (σ 10) c l s → Q (fM_findOrder_L32 K x1 (nI c) n (nI a) h') := by
    intro n
    induction n with
    | zero => intro a h' l' ha; omega
    | succ n ih =>
      intro a h' l' ha has fr hl' e
      rw [fM_findOrder_L32]
      cases a with
      | zero =>
        rw [if_pos (show nI 0 ≤ 0 by decide)]
        refine hK 0 h' (by omega) fr (fun i hi => ?_)
        rw [← e]
        show _ = nI (sv l' 0 c i)
        by_cases z : i = 0
        · rw [z, upd_same, sv_s]
        · rw [upd_ne z, sv_n z]; exact (hl' i hi z).1
      | succ a =>
        obtain ⟨la1, la2⟩ := hl' a (by omega) (by omega)
        have i1 : nI (a + 1) - 1 = nI a := nI_pred a
        have w1 := w99 _ la2
        have w2 := w99 _ hc
        rw [if_neg (fun z => by have := (n_le (Y := 0) (b := 0) rfl rfl (by omega) (by omega)).mp z; omega), i1, rd_at a 30 rfl rfl (by omega), la1, rd_at (l' a) 30 rfl rfl (by omega), rd_at c 30 rfl rfl (by omega), fr 38 (by decide), ms.a10 (by omega), ms.a10 (by omega)]
        have e2 : insF (σ 10) c l' (a + 1) = if σ 10 (l' a) ≤ σ 10 c then sv l' (a + 1) c else insF (σ 10) c (sv l' (a + 1) (l' a)) a := rfl
        rw [e2] at e
        by_cases q : σ 10 (l' a) ≤ σ 10 c
        · rw [if_pos ((nI_leI (by omega) (by omega)).mpr q)]
          rw [if_pos q] at e
          refine hK (a + 1) h' has fr (fun i hi => ?_)
          rw [← e]
          by_cases z : i = a + 1
          · rw [z, upd_same, sv_s]
          · rw [upd_ne z, sv_n z]; exact (hl' i hi z).1
        · rw [if_neg (fun z => q ((nI_leI (by omega) (by omega)).mp z)), rd_at a 30 rfl rfl (by omega), la1, wr_at (a + 1) 30 rfl rfl (by omega), show nI (a + 1) + (-1) = nI a by rw [← n_s1, Int32.add_assoc]; exact nI_z a]
          rw [if_neg q] at e
          refine ih a _ (sv l' (a + 1) (l' a)) (by omega) (by omega) (fun k hk => (up_ne h' hk _ _).trans (fr k hk)) (fun i hi hne => ?_) e
          rw [up_k]
          by_cases z : i = a + 1
          · rw [z, upd_same, sv_s]; exact ⟨rfl, la2⟩
          · rw [upd_ne z, sv_n z]; exact hl' i hi z
  exact key FU s h l (by unfold FU; omega) (Nat.le_refl _) (fun _ _ => rfl) (fun i hi hne => hl i (by omega)) rfl
def FrO (h h' : Hp) : Prop := (∀ k, k ≠ 54 → k ≠ 28 → h' k = h k) ∧ ∀ j, j ≠ 34 → h' 28 j = h 28 j
theorem FrO.ms {h' : Hp} (f : FrO h h') (ms : MS σ h) : MS σ h' := ms.congr (fun j hj _ => f.2 j (by omega)) (fun k k1 k2 => f.1 k (by omega) (by omega))
theorem findOrder_K {Q : RO → Prop} {x : Nat} {P : Nat → Bool} (w : WF σ) (ms : MS σ h) (hx : x < 9) (h52 : ∀ c, c < σ 0 3 → (h 52 c = nI (2 ^ x) ↔ P c = true)) (h5 : cntP P (σ 0 3) ≤ 5) (hK : ∀ h', FrO h h' → h' 28 34 = nI (cntP P (σ 0 3)) → (∀ i, i < cntP P (σ 0 3) → h' 54 i = nI (lnS P (σ 10) (σ 0 3) i)) → Q (some (0, h'))) : Q (fM_findOrder h (nI x)) := by
  have c30 := w.nc_le
  unfold fM_findOrder
  rw [pt_eq]
  refine loopK (fun n (a : Int32 × Hp) => fM_findOrder_L7 (nI x) n a.1 a.2) (fun c a => a.1 = nI c ∧ FrO h a.2 ∧ a.2 28 34 = nI (cntP P c) ∧ ∀ i, i < cntP P c → a.2 54 i = nI (lnS P (σ 10) c i)) Q (σ 0 3) (by omega) ?_ ?_ 0 (0, up h 28 34 0) (by omega) ⟨rfl, ⟨fun k _ k2 => up_ne h k2 _ _, fun j hj => ?_⟩, ?_, fun i hi => absurd hi (Nat.not_lt_zero _)⟩
  · rintro c ⟨z, h'⟩ n hc ⟨e1, e3, e5, e4⟩ hn
    dsimp only at e1 e3 e4 e5
    subst e1
    have ms' : MS σ h' := e3.ms ms
    have mono := cntP_mono P (show c + 1 ≤ σ 0 3 by omega)
    show Q (fM_findOrder_L7 (nI x) (n + 1) (nI c) h')
    rw [fM_findOrder_L7, ms'.nc, if_neg (fun z => by have := (nI_leI (by omega) (by omega)).mp z; omega), rd_at c 30 rfl rfl (by omega), jn_eq, e3.1 52 (by decide) (by decide), n_one_shl (by omega), n_s1]
    cases q : P c with
    | false =>
      rw [if_neg (fun z => by rw [(h52 c hc).mp z] at q; exact absurd q (by decide))]
      refine hn (nI (c + 1), h') ⟨rfl, e3, by rw [cntP_f q]; exact e5, ?_⟩
      rw [cntP_f q]
      show ∀ i, i < cntP P c → h' 54 i = nI ((if P c then insF (σ 10) c (lnS P (σ 10) c) (cntP P c) else lnS P (σ 10) c) i)
      rw [q, if_neg (by decide)]
      exact e4
    | true =>
      rw [cntP_t q] at mono
      rw [if_pos ((h52 c hc).mpr q), bnd_eq, e5]
      refine minsert_K (s := cntP P c) (l := lnS P (σ 10) c) w ms' hc (by omega) (fun i hi => ⟨e4 i hi, by have := (lnS_el (P := P) (W := σ 10) c i hi).1; omega⟩) (fun a h2 ha f1 f2 => ?_)
      rw [wr_at a 30 rfl rfl (by omega), pt_eq, up_ne h2 (show 28 ≠ 54 by decide), f1 28 (by decide), e5, n_s1]
      refine hn (nI (c + 1), up (up h2 54 a (nI c)) 28 34 (nI (cntP P c + 1))) ⟨rfl, ⟨fun k k1 k2 => ?_, fun j hj => ?_⟩, ?_, ?_⟩
      · show up (up h2 54 a (nI c)) 28 34 (nI (cntP P c + 1)) k = _
        rw [up_ne _ k2, up_ne _ k1, f1 k k1]
        exact e3.1 k k1 k2
      · show up (up h2 54 a (nI c)) 28 34 (nI (cntP P c + 1)) 28 j = _
        rw [up_k, upd_ne hj, up_ne h2 (by decide), f1 28 (by decide)]
        exact e3.2 j hj
      · show up (up h2 54 a (nI c)) 28 34 (nI (cntP P c + 1)) 28 34 = _
        rw [up_k, upd_same, cntP_t q]
      · rw [cntP_t q]
        show ∀ i, i < cntP P c + 1 → up (up h2 54 a (nI c)) 28 34 (nI (cntP P c + 1)) 54 i = nI ((if P c then insF (σ 10) c (lnS P (σ 10) c) (cntP P c) else lnS P (σ 10) c) i)
        rw [q, if_pos rfl]
        intro i hi
        rw [up_ne _ (show 54 ≠ 28 by decide), up_k]
        exact f2 i (by omega)
  · rintro ⟨z, h'⟩ n ⟨e1, e3, e5, e4⟩
    dsimp only at e1 e3 e4 e5
    subst e1
    have ms' : MS σ h' := e3.ms ms
    show Q (fM_findOrder_L7 (nI x) (n + 1) (nI (σ 0 3)) h')
    rw [fM_findOrder_L7, ms'.nc, if_pos (Int32.le_refl _)]
    exact hK h' e3 e5 e4
  · show up h 28 34 0 28 j = _
    rw [up_k, upd_ne hj]
  · show up h 28 34 0 28 34 = _
    rw [up_k, upd_same]
    rfl
/-- the only place of these bits -/
theorem spI_iff {m x : Nat} (hm : m < 512) (hx : x < 9) : spI m = nI x ↔ m = 2 ^ x := by
  unfold spI
  constructor
  · intro e
    by_cases p : pop m 9 = 1
    · rw [if_pos p] at e
      obtain ⟨a, b⟩ := pop_one m hm p
      rw [← (nI_eq (by omega) (by omega)).mp e]
      exact a
    · rw [if_neg p] at e
      have := nI_pos' (n := x) (by omega)
      rw [← e] at this
      exact absurd this (by decide)
  · intro e
    have k : ∀ x, x < 9 → pop (2 ^ x) 9 = 1 ∧ Nat.log2 (2 ^ x) = x := by decide +kernel
    rw [e, if_pos (k x hx).1, (k x hx).2]
theorem cntP_blk {f : Nat → Bool} {a : Nat} : ∀ m, (∀ i j, a ≤ i → i < a + m → a ≤ j → j < a + m → f i = true → f j = true → i = j) → cntP f (a + m) ≤ cntP f a + 1
  | 0, _ => by rw [Nat.add_zero]; omega
  | m + 1, hu => by
    have ih := cntP_blk (f := f) (a := a) m (fun i j h1 h2 h3 h4 => hu i j h1 (by omega) h3 (by omega))
    cases q : f (a + m) with
    | false =>
      rw [show a + (m + 1) = (a + m) + 1 by omega, cntP_f q]
      exact ih
    | true =>
      rw [show a + (m + 1) = (a + m) + 1 by omega, cntP_t q]
      have z : cntP f (a + m) ≤ cntP f a := by
        apply Classical.byContradiction
        intro z
        obtain ⟨i, i1, i2, i3⟩ := cntP_ex (f := f) (n := a + m) (a := cntP f a) (by omega)
        have : a ≤ i := Classical.byContradiction fun y => by
          have := cntP_lt (f := f) (a := i) (b := a) (by omega) i2
          omega
        have := hu i (a + m) this (by omega) (by omega) (by omega) i2 q
        omega
      omega
/-- on one place lie five sure copies at most -/
theorem five (w : WF σ) {b : Nat → Nat} (bf : BF σ b) {P : Nat → Bool} {x : Nat} (hP : ∀ c, c < σ 0 3 → P c = true → b (σ 6 c) * 2 ^ ofs σ c = 2 ^ x) : cntP P (σ 0 3) ≤ 5 := by
  obtain ⟨q1, q2, q3, q4⟩ := w.2.2.1
  have q5 := w.2.2.2.1
  have hnp := w.1.2.2.2.2.2.1
  have uni : ∀ p, p < σ 0 2 → ∀ i j, σ 4 p ≤ i → i < σ 4 p + sz σ p → σ 4 p ≤ j → j < σ 4 p + sz σ p → P i = true → P j = true → i = j := fun p hp i j i1 i2 j1 j2 pi pj => by
    have el := w.end_le hp
    have hi : i < σ 0 3 := by omega
    have hj : j < σ 0 3 := by omega
    have ei := q5 p i hp i1 i2
    have ej := q5 p j hp j1 j2
    have mi := hP i hi pi
    have mj := hP j hj pj
    rw [ei] at mi
    rw [ej] at mj
    have bp : b p ≠ 0 := fun z => by
      rw [z, Nat.zero_mul] at mi
      have := Nat.pow_pos (a := 2) (n := x) (by decide)
      omega
    have eo : ofs σ i = ofs σ j := by
      have e : 2 ^ ofs σ i = 2 ^ ofs σ j := Nat.eq_of_mul_eq_mul_left (Nat.pos_of_ne_zero bp) (mi.trans mj.symm)
      have l2 : ∀ a b : Nat, a < b → 2 ^ a < 2 ^ b := fun a b hab => Nat.pow_lt_pow_right (by decide) hab
      rcases Nat.lt_trichotomy (ofs σ i) (ofs σ j) with z | z | z
      · have := l2 _ _ z; omega
      · exact z
      · have := l2 _ _ z; omega
    -- the piece is no wider than the sheet
    have wide : σ 2 p ≤ σ 0 1 := by
      obtain ⟨t, ht⟩ : ∃ t, (b p).testBit t = true := by
        apply Classical.byContradiction
        intro no
        apply bp
        refine Nat.eq_of_testBit_eq (fun t => ?_)
        rw [Nat.zero_testBit]
        cases z : (b p).testBit t with
        | false => rfl
        | true => exact absurd ⟨t, z⟩ no
      have f := (bf p t ht).2
      unfold ft at f
      rw [Bool.and_eq_true, Bool.and_eq_true, Bool.and_eq_true, decide_eq_true_eq, decide_eq_true_eq] at f
      have := f.1.1.2
      omega
    have ci := w.cl_lt hi
    have cj := w.cl_lt hj
    have oi := w.off hi
    have oj := w.off hj
    rw [ei] at ci oi
    rw [ej] at cj oj
    unfold ofs at eo
    have d1 := dm_at (C := σ 0 1) (r := rw_ σ i) (c := cl_ σ i) (by omega)
    have d2 := dm_at (C := σ 0 1) (r := rw_ σ j) (c := cl_ σ j) (by omega)
    rw [eo] at d1
    have r : rw_ σ i = rw_ σ j := by rw [← d1.1, d2.1]
    have c : cl_ σ i = cl_ σ j := by rw [← d1.2, d2.2]
    rw [oi, oj, r, c]
  have key : ∀ p, p < σ 0 2 → cntP P (σ 4 p + sz σ p) ≤ p + 1 := by
    intro p
    induction p with
    | zero =>
      intro hp
      have := cntP_blk (f := P) (a := σ 4 0) (sz σ 0) (uni 0 hp)
      rw [q1 hp] at this ⊢
      exact this
    | succ p ih =>
      intro hp
      have := cntP_blk (f := P) (a := σ 4 (p + 1)) (sz σ (p + 1)) (uni (p + 1) hp)
      have i2 := ih (by omega)
      rw [← q2 p hp] at i2
      omega
  cases hn : σ 0 2 with
  | zero =>
    rw [q3 hn]
    exact Nat.zero_le _
  | succ p =>
    have := key p (by omega)
    rw [q4 p hn.symm]
    omega
end Order
