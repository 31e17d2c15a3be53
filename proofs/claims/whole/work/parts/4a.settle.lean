/-! THE CLASS SETTLES -/
section Settle
variable {σ : Sg} {gr : Nat → Nat} {h : Hp}
theorem ft_ofs (w : WF σ) {c s : Nat} (hc : c < σ 0 3) (hf : ft σ (σ 6 c) s = true) : s + ofs σ c < PP σ := by
  have r1 := w.rw_lt hc
  have r2 := w.cl_lt hc
  unfold ft at hf
  rw [Bool.and_eq_true, Bool.and_eq_true, Bool.and_eq_true, decide_eq_true_eq, decide_eq_true_eq] at hf
  obtain ⟨⟨⟨f1, f2⟩, -⟩, -⟩ := hf
  have d := Nat.div_add_mod s (σ 0 1)
  have m : (s / σ 0 1 + rw_ σ c + 1) * σ 0 1 ≤ σ 0 0 * σ 0 1 := Nat.mul_le_mul_right _ (by omega)
  rw [Nat.add_mul, Nat.add_mul, Nat.mul_comm (s / σ 0 1), Nat.one_mul] at m
  unfold ofs PP
  omega
theorem tz_eq (h : Hp) : ∀ k, k < 9 → fJ_numberOfTrailingZeros h (nI (2 ^ k)) = some (nI k, h)
  | 0, _ => rfl
  | 1, _ => rfl
  | 2, _ => rfl
  | 3, _ => rfl
  | 4, _ => rfl
  | 5, _ => rfl
  | 6, _ => rfl
  | 7, _ => rfl
  | 8, _ => rfl
  | k + 9, hk => absurd hk (by omega)
theorem pop_one : ∀ m, m < 512 → pop m 9 = 1 → m = 2 ^ Nat.log2 m ∧ Nat.log2 m < 9 := by decide +kernel
theorem pop_le (m : Nat) : ∀ n, pop m n ≤ n
  | 0 => Nat.le_refl _
  | n + 1 => by
    have := pop_le m n
    show pop m n + (if m.testBit n then 1 else 0) ≤ n + 1
    split <;> omega
/-- the only bit, or none -/
def spI (m : Nat) : Int32 := if pop m 9 = 1 then nI (Nat.log2 m) else -1
/-- the best spots are spots -/
def BF (σ : Sg) (b : Nat → Nat) : Prop := ∀ q t, (b q).testBit t = true → t < PP σ ∧ ft σ q t = true
theorem shift_lt (w : WF σ) {b : Nat → Nat} (bf : BF σ b) {c : Nat} (hc : c < σ 0 3) : b (σ 6 c) * 2 ^ ofs σ c < 512 := by
  have hP := PP_le w
  show _ < 2 ^ 9
  refine Nat.lt_pow_two_of_testBit _ (fun i hi => ?_)
  rw [Nat.testBit_mul_two_pow]
  cases q : (b (σ 6 c)).testBit (i - ofs σ c) with
  | false => rw [Bool.and_false]
  | true =>
    have := ft_ofs w hc (bf _ _ q).2
    rw [Bool.and_true, decide_eq_false_iff_not]
    omega
theorem placesOf_eq (w : WF σ) (cs : CS σ h) {b : Nat → Nat} (bs : BS b h) (bf : BF σ b) {c : Nat} (hc : c < σ 0 3) : fS_placesOf h (nI c) = some (nI (b (σ 6 c) * 2 ^ ofs σ c), h) := by
  have hq : σ 6 c < 5 := by
    have := (w.po hc).1
    have := w.1.2.2.2.2.2.1
    omega
  unfold fS_placesOf
  have o6 := ofs_le w hc
  have sl := shift_lt w bf hc
  rw [copyFact_eq (W := 0) (w := 0) w cs hc rfl (by decide), cal_some]
  show rd h 17 (nI (σ 6 c)) _ = _
  rw [rd_at (σ 6 c) 5 rfl rfl hq, (bs _ hq).1, offsetOf_eq w cs hc, cal_some, n_shl (by omega) (by omega)]
  rfl
theorem sure_K {Q : RO → Prop} (w : WF σ) (cs : CS σ h) {b : Nat → Nat} (bs : BS b h) (bf : BF σ b) (hK : ∀ h', (∀ k, k ≠ 12 → h' k = h k) → (∀ c, c < σ 0 3 → h' 12 c = spI (b (σ 6 c) * 2 ^ ofs σ c)) → Q (some (0, h'))) : Q (fS_findSurePlaces h) := by
  have c30 := w.nc_le
  unfold fS_findSurePlaces
  refine loopK (fun n (x : Int32 × Hp) => fS_findSurePlaces_L2 n x.1 x.2) (fun c x => x.1 = nI c ∧ (∀ k, k ≠ 12 → x.2 k = h k) ∧ ∀ d, d < c → x.2 12 d = spI (b (σ 6 d) * 2 ^ ofs σ d)) Q (σ 0 3) (by omega) ?_ ?_ 0 (0, h) (by omega) ⟨rfl, fun _ _ => rfl, fun d hd => by omega⟩
  · rintro c ⟨x, h'⟩ n hc ⟨e1, e2, e3⟩ hn
    dsimp only at e1 e2 e3
    subst e1
    have cs' : CS σ h' := cs.keep (fun k hk => e2 k (by omega))
    have bs' : BS b h' := fun q hq => by rw [e2 17 (by decide)]; exact bs q hq
    have sl := shift_lt w bf hc
    have pl := pop_le (b (σ 6 c) * 2 ^ ofs σ c) 9
    show Q (fS_findSurePlaces_L2 (n + 1) (nI c) h')
    rw [fS_findSurePlaces_L2, cs'.1 3 (by decide), if_neg (fun z => by have := (nI_leI (by omega) (by omega)).mp z; omega), placesOf_eq w cs' bs' bf hc, cal_some, bitCount_eq sl, cal_some, jn_eq, n_s1]
    have key : Q (wr h' 12 (nI c) (spI (b (σ 6 c) * 2 ^ ofs σ c)) (fun h40 => fS_findSurePlaces_L2 n (nI (c + 1)) h40)) := by
      rw [wr_at c 30 rfl rfl (by omega)]
      refine hn (nI (c + 1), up h' 12 c (spI (b (σ 6 c) * 2 ^ ofs σ c))) ⟨rfl, fun k hk => (up_ne h' hk _ _).trans (e2 k hk), fun d hd => ?_⟩
      show up h' 12 c (spI (b (σ 6 c) * 2 ^ ofs σ c)) 12 d = _
      rw [up_k]
      by_cases e : d = c
      · rw [e, upd_same]
      · rw [upd_ne e]; exact e3 d (by omega)
    unfold spI at key
    by_cases p1 : pop (b (σ 6 c) * 2 ^ ofs σ c) 9 = 1
    · rw [if_pos p1] at key
      obtain ⟨q1, q2⟩ := pop_one _ sl p1
      rw [if_pos (by rw [p1]; rfl), q1, tz_eq h' _ q2, cal_some]
      exact key
    · rw [if_neg p1] at key
      rw [if_neg (fun z => p1 ((n_eq (Y := 1) (b := 1) rfl rfl (by omega) (by omega)).mp z))]
      exact key
  · rintro ⟨x, h'⟩ n ⟨e1, e2, e3⟩
    dsimp only at e1 e2 e3
    subst e1
    have cs' : CS σ h' := cs.keep (fun k hk => e2 k (by omega))
    show Q (fS_findSurePlaces_L2 (n + 1) (nI (σ 0 3)) h')
    rw [fS_findSurePlaces_L2, cs'.1 3 (by decide), if_pos (Int32.le_refl _)]
    exact hK h' e2 e3
/-- the picked laying is one, if there is one -/
def PK (σ : Sg) (gr : Nat → Nat) (h : Hp) : Prop := h 3 8 = -1 ∨ ∃ n, n < tot σ ∧ gd σ (Lsum σ gr (Lm σ gr)) n = true ∧ h 3 8 = nI (cntP (gd σ (Lsum σ gr (Lm σ gr))) n) ∧ ∀ i, tkp σ i = true → h 21 i = nI (nth σ n i)
/-- a fresh search -/
def SF (σ : Sg) (h : Hp) : Prop := h 3 3 = nI (PP σ) ∧ ∃ b, BS b h ∧ BF σ b ∧ (∀ c, c < σ 0 3 → h 12 c = spI (b (σ 6 c) * 2 ^ ofs σ c)) ∧ ((alP (allO σ) 5 = false ∧ h 3 4 = 0 ∧ ∀ q, b q = 0) ∨ (alP (allO σ) 5 = true ∧ ∃ gr, GRP σ gr ∧ GH σ gr h ∧ (∀ p, p < 5 → h 13 p = bI (tkp σ p)) ∧ SG σ gr 5 b h ∧ PK σ gr h))
theorem SG_bf (w : WF σ) (G : GRP σ gr) {b : Nat → Nat} {p : Nat} (sg : SG σ gr p b h) : BF σ b := fun q t ht => by
  obtain ⟨a1, a2, u, a3, a4⟩ := (sg.2.2.1 q t).mp ht
  have gq : inG σ gr (gr q) q = true := inG_iff.mpr ⟨a2, rfl⟩
  have := inG_b w G gq
  have := (okt_iff _ _).mp a3.2.1 q (by omega) (by omega) gq
  rw [a4, opM_bit a2, Bool.and_eq_true, decide_eq_true_eq] at this
  exact this
def FrC (h h' : Hp) : Prop := ∀ k, k ≠ 3 → (k < 12 ∨ 26 < k) → h' k = h k
theorem ptz_0 (h : Hp) (k j : Nat) (f : Hp → RO) : ptz h k j 0 f = f (up h k j 0) := by
  unfold ptz
  rw [if_pos (Or.inl rfl)]
theorem settle_eq (w : WF σ) (cs : CS σ h) (hx : h 3 2 = 1 ∨ (h 3 2 = 0 ∧ SF σ h)) : ∃ h', fS_settle h = some (0, h') ∧ FrC h h' ∧ h' 3 2 = 0 ∧ SF σ h' := by
  unfold fS_settle
  rcases hx with hs | ⟨hs, sf⟩
  · rw [hs, if_neg (by decide)]
    rw [ptz_0, pt_eq]
    have cs1 : CS σ (up (up h 3 2 0) 3 8 (-1)) := cs.keep (fun k hk => by rw [up_ne _ (by omega), up_ne _ (by omega)])
    rw [places_eq cs1, cal_some, pt_eq, pt_eq, pt_eq]
    have mid : ∀ H : Hp, H = up (up (up (up (up h 3 2 0) 3 8 (-1)) 3 3 (nI (σ 0 0 * σ 0 1))) 3 5 0) 3 4 0 → (∀ k, k ≠ 3 → H k = h k) ∧ H 3 2 = 0 ∧ H 3 8 = -1 ∧ H 3 3 = nI (PP σ) ∧ H 3 5 = 0 ∧ H 3 4 = 0 := fun H eH => by
      subst eH
      refine ⟨fun k hk => ?_, ?_, ?_, ?_, ?_, ?_⟩
      · rw [up_ne _ hk, up_ne _ hk, up_ne _ hk, up_ne _ hk, up_ne _ hk]
      · rw [up_k, upd_ne (by decide), up_k, upd_ne (by decide), up_k, upd_ne (by decide), up_k, upd_ne (by decide), up_k, upd_same]
      · rw [up_k, upd_ne (by decide), up_k, upd_ne (by decide), up_k, upd_ne (by decide), up_k, upd_same]
      · rw [up_k, upd_ne (by decide), up_k, upd_ne (by decide), up_k, upd_same]; rfl
      · rw [up_k, upd_ne (by decide), up_k, upd_same]
      · rw [up_k, upd_same]
    generalize up (up (up (up (up h 3 2 0) 3 8 (-1)) 3 3 (nI (σ 0 0 * σ 0 1))) 3 5 0) 3 4 0 = H at mid
    obtain ⟨m1, m2, m3, m4, m5, m6⟩ := mid H rfl
    have csH : CS σ H := cs.keep (fun k hk => m1 k (by omega))
    obtain ⟨h1, o1, o2, o3⟩ := openSpots_eq w csH
    rw [o1, cal_some, jn_eq, if_b0]
    have cs2 : CS σ h1 := csH.keep (fun k hk => o2 k (by omega) (by omega) (by omega))
    have k1 : h1 3 = H 3 := o2 3 (by decide) (by decide) (by decide)
    cases ha : alP (allO σ) 5 with
    | false =>
      rw [cond_false]
      refine sure_K (Q := fun o => ∃ h', cal o (fun _ h55 => ret1 0 h55) = some (0, h') ∧ FrC h h' ∧ h' 3 2 = 0 ∧ SF σ h') (b := fun _ => 0) w cs2 (fun q hq => ⟨(o3 q hq).2.2, by show 0 < 512; omega⟩) (fun q t z => absurd z (by rw [Nat.zero_testBit]; decide)) (fun h2 f1 f2 => ?_)
      refine ⟨h2, rfl, fun k k3 k4 => ?_, ?_, ?_, fun _ => 0, fun q hq => ?_, fun q t z => absurd z (by rw [Nat.zero_testBit]; decide), f2, Or.inl ⟨ha, ?_, fun _ => rfl⟩⟩
      · rw [f1 k (by omega), o2 k (by omega) (by omega) (by omega)]
        exact m1 k k3
      · rw [f1 3 (by decide), k1]; exact m2
      · rw [f1 3 (by decide), k1]; exact m4
      · rw [f1 17 (by decide)]
        exact ⟨(o3 q hq).2.2, by show 0 < 512; omega⟩
      · rw [f1 3 (by decide), k1]; exact m6
    | true =>
      rw [cond_true]
      obtain ⟨h2, gr, g1, g2, G, gh⟩ := formGroups_eq w cs2 (fun p hp => ⟨(o3 p hp).1, (o3 p hp).2.1⟩)
      rw [g1, cal_some]
      have k2 : h2 3 = H 3 := (g2 3 (by decide) (by decide) (by omega)).trans k1
      refine searchGroups_K (Q := fun o => ∃ h', cal o (fun _ h51 => (fun h54 => cal (fS_findSurePlaces h54) (fun _ h55 => ret1 0 h55)) h51) = some (0, h') ∧ FrC h h' ∧ h' 3 2 = 0 ∧ SF σ h') w G gh (fun p hp => by rw [g2 13 (by decide) (by decide) (by omega), g2 16 (by decide) (by decide) (by omega)]; exact ⟨(o3 p hp).1, (o3 p hp).2.1⟩) (by rw [k2]; exact m4) (by rw [k2]; exact m5) (fun q hq => by rw [g2 17 (by decide) (by decide) (by omega)]; exact (o3 q hq).2.2) ha (fun h3 b fg sg => ?_)
      rw [cal_some]
      have cs4 : CS σ h3 := cs2.keep (fun k hk => by rw [fg.1 k (by omega) (by omega) (by omega) (by omega) (by omega)]; exact g2 k (by omega) (by omega) (by omega))
      have bf := SG_bf w G sg
      refine sure_K (Q := fun o => ∃ h', cal o (fun _ h55 => ret1 0 h55) = some (0, h') ∧ FrC h h' ∧ h' 3 2 = 0 ∧ SF σ h') (b := b) w cs4 sg.2.1 bf (fun h4 f1 f2 => ?_)
      have q3 : ∀ j, j ≠ 4 → j ≠ 5 → j ≠ 7 → h4 3 j = H 3 j := fun j j1 j2 j3 => by rw [f1 3 (by decide), fg.2 j j1 j2 j3, k2]
      refine ⟨h4, rfl, fun k k3 k4 => ?_, ?_, ?_, b, fun q hq => ?_, bf, f2, Or.inr ⟨ha, gr, G, ?_, fun p hp => ?_, ⟨fun g hg lg => ?_, fun q hq => ?_, sg.2.2.1, ?_, ?_⟩, Or.inl ?_⟩⟩
      · rw [f1 k (by omega), fg.1 k (by omega) (by omega) (by omega) (by omega) (by omega), g2 k (by omega) (by omega) (by omega), o2 k (by omega) (by omega) (by omega)]
        exact m1 k k3
      · rw [q3 2 (by decide) (by decide) (by decide)]; exact m2
      · rw [q3 3 (by decide) (by decide) (by decide)]; exact m4
      · rw [f1 17 (by decide)]; exact sg.2.1 q hq
      · exact gh.keep (by rw [f1 14 (by decide), fg.1 14 (by decide) (by decide) (by decide) (by decide) (by decide)]) (by rw [f1 15 (by decide), fg.1 15 (by decide) (by decide) (by decide) (by decide) (by decide)]) (by rw [f1 26 (by decide), fg.1 26 (by decide) (by decide) (by decide) (by decide) (by decide)])
      · rw [f1 13 (by decide), fg.1 13 (by decide) (by decide) (by decide) (by decide) (by decide), g2 13 (by decide) (by decide) (by omega)]
        exact (o3 p hp).1
      · rw [f1 18 (by decide), f1 19 (by decide), f1 22 (by decide)]; exact sg.1 g hg lg
      · rw [f1 17 (by decide)]; exact sg.2.1 q hq
      · rw [f1 3 (by decide)]; exact sg.2.2.2.1
      · rw [f1 3 (by decide)]; exact sg.2.2.2.2
      · rw [q3 8 (by decide) (by decide) (by decide)]; exact m3
  · rw [hs, if_pos rfl]
    exact ⟨h, rfl, fun _ _ _ => rfl, hs, sf⟩
end Settle
