/-! THE CLASS COUNTS A GROUP'S BEST WAYS -/
section Ways
variable {σ : Sg} {gr : Nat → Nat} {h : Hp} {g : Nat}
theorem nI_subL {a b : Nat} (hb : b ≤ a) : nI a - nI b = nI (a - b) := by
  have e : nI a = nI (a - b) + nI b := by rw [nI_add, Nat.sub_add_cancel hb]
  rw [e, Int32.add_sub_cancel]
theorem SI_extC {P : Nat} {sel : Nat → Bool} {F H : (Nat → Nat) → Nat} {r i : Nat} {v : Nat → Nat} (hF : ∀ u, Cm P sel r i v u → F u = H u) : SI P sel r i v F = SI P sel r i v H := by
  rw [SI_num, SI_num]
  exact sumN_congr (fun n hn => hF _ (asg_cm hn))
theorem SI_le {P : Nat} {sel : Nat → Bool} {F : (Nat → Nat) → Nat} (hP : P ≤ 9) (h1 : ∀ u, F u ≤ 1) {r i : Nat} {v : Nat → Nat} (hr : r ≤ 5) : SI P sel r i v F ≤ 59049 := by
  rw [SI_num]
  have a : sumN (fun n => F (asg P sel r i v n)) (P ^ tn sel r i) ≤ P ^ tn sel r i * 1 := sumN_le (fun n _ => h1 _)
  have b : P ^ tn sel r i ≤ 9 ^ tn sel r i := Nat.pow_le_pow_left hP _
  have c : 9 ^ tn sel r i ≤ 9 ^ 5 := Nat.pow_le_pow_right (by decide) (Nat.le_trans (tn_le sel r i) hr)
  omega
/-- the open spots, as bits -/
def OS (σ : Sg) (o : Nat → Nat) (h : Hp) : Prop := ∀ q, q < 5 → h 16 q = nI (o q) ∧ o q < 512 ∧ ∀ t, (o q).testBit t = true → t < PP σ ∧ ft σ q t = true
def WQ (σ : Sg) (gr : Nat → Nat) (g : Nat) (o : Nat → Nat) (left p : Nat) (v u : Nat → Nat) : Prop := Cm (PP σ) (inG σ gr g) (5 - p) p v u ∧ okt σ gr g o (5 - p) p u = true ∧ tc σ gr g (5 - p) p u = left
def wF (σ : Sg) (gr : Nat → Nat) (g : Nat) (o : Nat → Nat) (left p : Nat) (u : Nat → Nat) : Nat := if okt σ gr g o (5 - p) p u && tc σ gr g (5 - p) p u == left then 1 else 0
def wS (σ : Sg) (gr : Nat → Nat) (g : Nat) (o : Nat → Nat) (left p : Nat) (v : Nat → Nat) : Nat := SI (PP σ) (inG σ gr g) (5 - p) p v (wF σ gr g o left p)
theorem wF_le {o u : Nat → Nat} {left p : Nat} : wF σ gr g o left p u ≤ 1 := by
  unfold wF
  split <;> omega
theorem wF_pos {o u : Nat → Nat} {left p : Nat} : 0 < wF σ gr g o left p u ↔ okt σ gr g o (5 - p) p u = true ∧ tc σ gr g (5 - p) p u = left := by
  unfold wF
  by_cases q : (okt σ gr g o (5 - p) p u && tc σ gr g (5 - p) p u == left) = true
  · rw [if_pos q]
    rw [Bool.and_eq_true, beq_iff_eq] at q
    exact ⟨fun _ => q, fun _ => by omega⟩
  · rw [if_neg q]
    rw [Bool.and_eq_true, beq_iff_eq] at q
    exact ⟨fun z => by omega, fun z => absurd z q⟩
theorem wS_le (w : WF σ) {o v : Nat → Nat} {left p : Nat} : wS σ gr g o left p v ≤ 59049 := SI_le (PP_le w).2 (fun _ => wF_le) (by omega)
theorem wS_pos {o v : Nat → Nat} {left p : Nat} : 0 < wS σ gr g o left p v ↔ ∃ u, WQ σ gr g o left p v u := by
  unfold wS
  rw [SI_pos]
  constructor
  · rintro ⟨u, a, b⟩
    exact ⟨u, a, (wF_pos.mp b).1, (wF_pos.mp b).2⟩
  · rintro ⟨u, a, b, c⟩
    exact ⟨u, a, wF_pos.mpr ⟨b, c⟩⟩
theorem WQ_st {o v u : Nat → Nat} {left p s : Nat} (hp : p < 5) (hg : inG σ gr g p = true) (hs : s < PP σ) (hb : (o p).testBit s = true) (hl : ld σ gr v p p s ≤ left) : WQ σ gr g o (left - ld σ gr v p p s) (fol gr p) (sv v p s) u ↔ WQ σ gr g o left p v u ∧ u p = s := by
  obtain ⟨f1, -, -, -⟩ := fol_spec (gr := gr) hp
  unfold WQ
  constructor
  · rintro ⟨a, b, c⟩
    have up : u p = s := by rw [Cm_ah a f1, sv_s]
    have cu : Cm (PP σ) (inG σ gr g) (5 - p) p v u := (Cm_st hp hg).mpr ⟨by omega, by rw [up]; exact a⟩
    refine ⟨⟨cu, (okt_st hp hg).mpr ⟨by rw [up]; exact hb, b⟩, ?_⟩, up⟩
    rw [tc_st hp hg, inc_ld (v := v) (fun j hj => Cm_ah cu hj), up]
    omega
  · rintro ⟨⟨a, b, c⟩, up⟩
    have a2 := ((Cm_st hp hg).mp a).2
    rw [up] at a2
    refine ⟨a2, ((okt_st hp hg).mp b).2, ?_⟩
    rw [tc_st hp hg, inc_ld (v := v) (fun j hj => Cm_ah a hj), up] at c
    omega
theorem WQ_no {o v u : Nat → Nat} {left p s : Nat} (hp : p < 5) (hg : inG σ gr g p = true) (hn : ¬ ((o p).testBit s = true ∧ ld σ gr v p p s ≤ left)) : ¬ (WQ σ gr g o left p v u ∧ u p = s) := by
  rintro ⟨⟨a, b, c⟩, up⟩
  refine hn ⟨by rw [← up]; exact ((okt_st hp hg).mp b).1, ?_⟩
  rw [tc_st hp hg, inc_ld (v := v) (fun j hj => Cm_ah a hj), up] at c
  omega
theorem wS_st {o v : Nat → Nat} {left p : Nat} (hp : p < 5) (hg : inG σ gr g p = true) : wS σ gr g o left p v = sumN (fun s => if (o p).testBit s && decide (ld σ gr v p p s ≤ left) then wS σ gr g o (left - ld σ gr v p p s) (fol gr p) (sv v p s) else 0) (PP σ) := by
  obtain ⟨f1, -, -, -⟩ := fol_spec (gr := gr) hp
  unfold wS
  rw [SI_st hp hg]
  refine sumN_congr (fun s hs => ?_)
  by_cases q : ((o p).testBit s && decide (ld σ gr v p p s ≤ left)) = true
  · rw [if_pos q]
    rw [Bool.and_eq_true, decide_eq_true_eq] at q
    refine SI_extC (fun u cu => ?_)
    have e := WQ_st (u := u) (v := v) (o := o) (left := left) hp hg hs q.1 q.2
    have cu2 : Cm (PP σ) (inG σ gr g) (5 - p) p v u := (Cm_st hp hg).mpr ⟨by rw [Cm_ah cu f1, sv_s]; exact hs, by rw [Cm_ah cu f1, sv_s]; exact cu⟩
    have e2 : 0 < wF σ gr g o left p u ↔ 0 < wF σ gr g o (left - ld σ gr v p p s) (fol gr p) u := by
      rw [wF_pos, wF_pos]
      constructor
      · rintro ⟨a, b⟩
        have := e.mpr ⟨⟨cu2, a, b⟩, by rw [Cm_ah cu f1, sv_s]⟩
        exact ⟨this.2.1, this.2.2⟩
      · rintro ⟨a, b⟩
        have := (e.mp ⟨cu, a, b⟩).1
        exact ⟨this.2.1, this.2.2⟩
    have b1 := wF_le (σ := σ) (gr := gr) (g := g) (o := o) (u := u) (left := left) (p := p)
    have b2 := wF_le (σ := σ) (gr := gr) (g := g) (o := o) (u := u) (left := left - ld σ gr v p p s) (p := fol gr p)
    omega
  · rw [if_neg q]
    apply Classical.byContradiction
    intro z
    obtain ⟨u, cu, hu⟩ := SI_pos.mp (Nat.pos_of_ne_zero z)
    rw [wF_pos] at hu
    rw [Bool.and_eq_true, decide_eq_true_eq] at q
    exact WQ_no (v := v) hp hg q ⟨⟨(Cm_st hp hg).mpr ⟨by rw [Cm_ah cu f1, sv_s]; exact hs, by rw [Cm_ah cu f1, sv_s]; exact cu⟩, hu.1, hu.2⟩, by rw [Cm_ah cu f1, sv_s]⟩
/-- the open spots where a piece quarrels no more than so much -/
def swM (σ : Sg) (gr : Nat → Nat) (o v : Nat → Nat) (p left : Nat) : Nat := msk (fun s => (o p).testBit s && decide (ld σ gr v p p s ≤ left)) 9
theorem spotsWithin_eq {o v : Nat → Nat} {p left : Nat} (w : WF σ) (G : GRP σ gr) (tp : tkp σ p = true) (l : LD σ gr v p h) (g3 : h 3 3 = nI (PP σ)) (os : OS σ o h) (hl : left ≤ 1000000) : fS_spotsWithin h (nI p) (nI left) = some (nI (swM σ gr o v p left), h) := by
  have hP := PP_le w
  have p5 := tkp5 w tp
  unfold fS_spotsWithin
  have a1 : nI p * 45 + nI p * 9 = nI (45 * p + 9 * p) := by
    rw [show (45 : Int32) = nI 45 from rfl, show (9 : Int32) = nI 9 from rfl, n_mul, n_mul, nI_add, Nat.mul_comm p 45, Nat.mul_comm p 9]
  rw [bnd_eq, a1]
  refine loopK (fun n (x : Int32 × Int32 × Hp) => fS_spotsWithin_L16 (fun x4_53 h53 => rd h53 16 (nI p) (fun r60 => ret1 (x4_53 &&& r60) h53)) (nI p) (nI left) (nI (45 * p + 9 * p)) n x.1 x.2.1 x.2.2) (fun t x => x.2.1 = nI t ∧ x.2.2 = h ∧ ∃ A, x.1 = nI A ∧ A < 2 ^ t ∧ ∀ s, s < t → ft σ p s = true → (A.testBit s = true ↔ ld σ gr v p p s ≤ left)) (fun o' => o' = some (nI (swM σ gr o v p left), h)) (PP σ) (by omega) ?_ ?_ 0 (0, 0, h) (by omega) ⟨rfl, rfl, 0, rfl, by omega, fun s hs => by omega⟩
  · rintro t ⟨x, y, h'⟩ n ht ⟨e1, e2, A, e3, e4, e5⟩ hn
    dsimp only at e1 e2 e3
    subst e1 e2 e3
    show fS_spotsWithin_L16 _ (nI p) (nI left) (nI (45 * p + 9 * p)) (n + 1) (nI A) (nI t) h' = _
    rw [fS_spotsWithin_L16, g3, if_neg (fun z => by have := (nI_leI (by omega) (by omega)).mp z; omega), rd_at (45 * p + 9 * p + t) 225 rfl (nI_add _ _) (by omega), jn_eq, n_s1]
    by_cases q : nI left < h' 22 (45 * p + 9 * p + t)
    · rw [if_pos q]
      refine hn (nI A, nI (t + 1), h') ⟨rfl, rfl, A, rfl, by rw [Nat.pow_succ]; omega, fun s hs hf => ?_⟩
      by_cases z : s = t
      · rw [z] at hf ⊢
        rw [l p t (Nat.le_refl _) p5 rfl ht hf] at q
        have hld := ld_le (v := v) (t := t) w G (Nat.le_refl p) p5 tp
        have := (nI_ltI (by omega) (by omega)).mp q
        rw [Nat.testBit_lt_two_pow e4]
        exact ⟨fun y => absurd y (by decide), fun y => by omega⟩
      · exact e5 s (by omega) hf
    · rw [if_neg q, bnd_eq, n_one_shl (by omega), n_or]
      refine hn (nI (A ||| 2 ^ t), nI (t + 1), h') ⟨rfl, rfl, A ||| 2 ^ t, rfl, Nat.or_lt_two_pow (by rw [Nat.pow_succ]; omega) (Nat.pow_lt_pow_right (by decide) (by omega)), fun s hs hf => ?_⟩
      rw [bit_or]
      by_cases z : s = t
      · rw [z] at hf ⊢
        rw [l p t (Nat.le_refl _) p5 rfl ht hf] at q
        have hld := ld_le (v := v) (t := t) w G (Nat.le_refl p) p5 tp
        have : ¬ left < ld σ gr v p p t := fun y => q ((nI_ltI (by omega) (by omega)).mpr y)
        exact ⟨fun _ => by omega, fun _ => Or.inr rfl⟩
      · rw [← e5 s (by omega) hf]
        exact ⟨fun y => y.resolve_right (by omega), Or.inl⟩
  · rintro ⟨x, y, h'⟩ n ⟨e1, e2, A, e3, e4, e5⟩
    dsimp only at e1 e2 e3
    subst e1 e2 e3
    show fS_spotsWithin_L16 _ (nI p) (nI left) (nI (45 * p + 9 * p)) (n + 1) (nI A) (nI (PP σ)) h' = _
    obtain ⟨o1, o2, o3⟩ := os p p5
    rw [fS_spotsWithin_L16, g3, if_pos (Int32.le_refl _), rd_at p 5 rfl rfl p5, o1, n_and]
    have : A &&& o p = swM σ gr o v p left := by
      refine nat_ext (n := 9) (Nat.and_lt_two_pow _ o2) (msk_lt _ _) (fun i hi => ?_)
      unfold swM
      rw [msk_bit, Nat.testBit_and, decide_eq_true hi, Bool.true_and]
      cases q : (o p).testBit i with
      | false => rw [Bool.and_false, Bool.false_and]
      | true =>
        obtain ⟨k1, k2⟩ := o3 i q
        rw [Bool.and_true, Bool.true_and, Bool.eq_iff_iff, decide_eq_true_eq]
        exact e5 i k1 k2
    rw [this]
    rfl
end Ways
