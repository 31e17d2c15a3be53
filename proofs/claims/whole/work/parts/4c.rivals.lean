/-! RIVALS, PLACE -/
section Rivals
variable {σ : Sg} {h : Hp}
theorem shr_bit {a m : Nat} (ha : a < 2 ^ 31) (hm : m < 31) : (nI a >>> (nI m &&& 31)) &&& 1 = nI (if a.testBit m then 1 else 0) := by
  have hs : ∀ m, m < 31 → ((nI m &&& 31).toBitVec.smod 32).toNat = m := by decide +kernel
  rw [pk_shrN ha (nI m &&& 31) m (hs m hm)]
  have h2 : a / 2 ^ m < 2 ^ 31 := Nat.lt_of_le_of_lt (Nat.div_le_self _ _) ha
  rw [show (1 : Int32) = nI 1 from rfl, n_and, Nat.and_one_is_mod, Nat.testBit_eq_decide_div_mod_eq]
  by_cases q : a / 2 ^ m % 2 = 1
  · rw [q, if_pos (by rw [decide_eq_true rfl])]
  · rw [if_neg (by rw [decide_eq_true_eq]; exact q), show a / 2 ^ m % 2 = 0 by omega]
theorem manyOf_eq {m : Nat} (hm : m < 512) : fM_manyOf h (nI m) = some (nI (pop m 9), h) := by
  unfold fM_manyOf
  refine loopS (fun n (x : Int32 × Int32 × Hp) => fM_manyOf_L4 (nI m) n x.1 x.2.1 x.2.2) (fun t => (nI (pop m t), nI t, h)) _ 9 (by omega) ?_ ?_ 0 (by omega)
  · intro t n ht
    show fM_manyOf_L4 (nI m) (n + 1) (nI (pop m t)) (nI t) h = fM_manyOf_L4 (nI m) n (nI (pop m t + (if m.testBit t then 1 else 0))) (nI (t + 1)) h
    rw [fM_manyOf_L4, if_neg (fun z => by have := (n_le (X := 9) (a := 9) rfl rfl (by omega) (by omega)).mp z; omega), bnd_eq, shr_bit (by omega) (by omega), nI_add, n_s1]
  · intro n
    show fM_manyOf_L4 (nI m) (n + 1) (nI (pop m 9)) (nI 9) h = _
    rw [fM_manyOf_L4, if_pos (show (9 : Int32) ≤ nI 9 by decide)]
    rfl
theorem placeIn_eq {k : Nat} (hk : k < 9) : fM_placeIn h (nI (2 ^ k)) = some (nI k, h) := by
  have h2 : 2 ^ k < 2 ^ 9 := Nat.pow_lt_pow_right (by decide) hk
  unfold fM_placeIn
  refine loopS (fun n (x : Int32 × Hp) => fM_placeIn_L2 (nI (2 ^ k)) n x.1 x.2) (fun t => (nI t, h)) _ k (by omega) ?_ ?_ 0 (by omega)
  · intro t n ht
    show fM_placeIn_L2 (nI (2 ^ k)) (n + 1) (nI t) h = fM_placeIn_L2 (nI (2 ^ k)) n (nI (t + 1)) h
    rw [fM_placeIn_L2, shr_bit (by omega) (by omega), Nat.testBit_two_pow, if_neg (show ¬ decide (k = t) = true by rw [decide_eq_true_eq]; omega), if_pos (show nI 0 = 0 from rfl), n_s1]
  · intro n
    show fM_placeIn_L2 (nI (2 ^ k)) (n + 1) (nI k) h = _
    rw [fM_placeIn_L2, shr_bit (by omega) (by omega), Nat.testBit_two_pow, if_pos (show decide (k = k) = true from decide_eq_true rfl), if_neg (show ¬ nI 1 = 0 by decide)]
    rfl
/-- what both ask of a copy first: what the class then holds -/
theorem rivals_both {x : Int32} (s : ST σ h) (hx : h 3 2 = 1 ∨ (h 3 2 = 0 ∧ SF σ h)) : (∃ r h1 h2, r < 0 ∧ fX_refusalOf h x = some (r, h1) ∧ fM_rivals h1 x = some (r, h2) ∧ InvX SF h2) ∨ (∃ c h1 h2 b, x = nI c ∧ c < σ 0 3 ∧ fX_refusalOf h x = some (0, h1) ∧ ST σ h1 ∧ BS b h1 ∧ BF σ b ∧ h1 12 c = spI (b (σ 6 c) * 2 ^ ofs σ c) ∧ fM_rivals h1 x = some (nI (b (σ 6 c) * 2 ^ ofs σ c), h2) ∧ InvX SF h2) := by
  have c30 := s.1.nc_le
  have w := s.1
  have ms := s.2.1
  have cs := s.2.2.1
  have inv : InvX SF h := ST.inv s hx
  cases hc : wn x 0 (nI (σ 0 3) - 1) with
  | false =>
    left
    exact ⟨-1, h, h, by decide, by unfold fX_refusalOf; rw [hasCopy_eq cs, cal_some, if_b0, hc]; rfl, by unfold fM_rivals; rw [mcopy_eq ms, cal_some, if_b0, hc]; rfl, inv⟩
  | true =>
    have hc0 := hc
    obtain ⟨c, hcn, rfl⟩ := (wn_cnt (by omega)).mp hc
    have hp := (w.po hcn).1
    cases ht : tk σ (σ 6 c) with
    | false =>
      left
      exact ⟨-5, h, h, by decide, by unfold fX_refusalOf; rw [hasCopy_eq cs, cal_some, if_b0, hc0, cond_true, copyFact_eq (W := 0) (w := 0) w cs hcn rfl (by decide), cal_some]; show cal (fT_takesPart h (nI (σ 6 c))) _ = _; rw [takesPart_eq w cs hp, cal_some, if_b0, ht]; rfl, by unfold fM_rivals; rw [mcopy_eq ms, cal_some, if_b0, hc0, cond_true, rd_at c 30 rfl rfl (by omega), ms.a6 (by omega), mtakes_eq w ms hp, cal_some, if_b0, ht]; rfl, inv⟩
    | true =>
      obtain ⟨h1, s1, s2, s3, sf, st1⟩ := both s hx 0
      obtain ⟨h2, L, m1, m2, fn, st2, m3, sf2⟩ := both2 st1 s3 sf (-1)
      obtain ⟨e1, e2, b, b1, b2, b3, b4⟩ := SF_FN w sf fn
      have inv2 := st2.inv (Or.inr ⟨m3, sf2⟩)
      have X : fX_refusalOf h (nI c) = if h1 3 4 = 0 then ret1 (-4) h1 else ret1 0 h1 := by
        unfold fX_refusalOf
        rw [hasCopy_eq cs, cal_some, if_b0, hc0, cond_true, copyFact_eq (W := 0) (w := 0) w cs hcn rfl (by decide), cal_some]
        show cal (fT_takesPart h (nI (σ 6 c))) _ = _
        rw [takesPart_eq w cs hp, cal_some, if_b0, ht, cond_true, s1, cal_some]
      have M : fM_rivals h1 (nI c) = if h2 28 31 = 0 then ret1 (-4) h2 else ret1 (h2 52 c) h2 := by
        unfold fM_rivals
        rw [mcopy_eq st1.2.1, cal_some, if_b0, hc0, cond_true, rd_at c 30 rfl rfl (by omega), st1.2.1.a6 (by omega), mtakes_eq w st1.2.1 hp, cal_some, if_b0, ht, cond_true, m1, cal_some, rd_at c 30 rfl rfl (by omega)]
      rw [e1] at X
      by_cases z : h2 28 31 = 0
      · left
        rw [if_pos z] at X M
        exact ⟨-4, h1, h2, by decide, X, M, inv2⟩
      · right
        rw [if_neg z] at X M
        rw [(b4 c hcn).2] at M
        exact ⟨c, h1, h2, b, rfl, hcn, X, st1, b1, b2, (b4 c hcn).1, M, inv2⟩
theorem ag_rivals (x : Int32) : Agr (InvX SF) (fun h => fX_rivals h x) (fun h => fM_rivals h x) := by
  rintro h ⟨σ, w, ms, cs, kp, ho, hx⟩
  have st : ST σ h := ⟨w, ms, cs, kp, ho⟩
  dsimp only
  unfold fX_rivals
  rcases rivals_both (x := x) st hx with ⟨r, h1, h2, r0, r1, r2, r3⟩ | ⟨c, h1, h2, b, rfl, hc, r1, st1, b1, b2, b3, r2, r3⟩
  · exact ⟨r, h1, h2, by rw [r1, cal_some, if_neg (fun z => by rw [z] at r0; exact absurd r0 (by decide))]; rfl, r2, r3⟩
  · exact ⟨_, h1, h2, by rw [r1, cal_some, if_pos rfl, placesOf_eq w st1.2.2.1 b1 b2 hc]; rfl, r2, r3⟩
theorem ag_place (x : Int32) : Agr (InvX SF) (fun h => fX_place h x) (fun h => fM_place h x) := by
  rintro h ⟨σ, w, ms, cs, kp, ho, hx⟩
  have st : ST σ h := ⟨w, ms, cs, kp, ho⟩
  have c30 := w.nc_le
  dsimp only
  unfold fX_place fM_place
  rcases rivals_both (x := x) st hx with ⟨r, h1, h2, r0, r1, r2, r3⟩ | ⟨c, h1, h2, b, rfl, hc, r1, st1, b1, b2, b3, r2, r3⟩
  · exact ⟨r, h1, h2, by rw [r1, cal_some, if_neg (fun z => by rw [z] at r0; exact absurd r0 (by decide))]; rfl, by rw [r2, cal_some, if_neg (Int32.not_le.mpr r0)]; rfl, r3⟩
  · have sl := shift_lt w b2 hc
    have pl := pop_le (b (σ 6 c) * 2 ^ ofs σ c) 9
    by_cases p1 : pop (b (σ 6 c) * 2 ^ ofs σ c) 9 = 1
    · obtain ⟨q1, q2⟩ := pop_one _ sl p1
      have e : spI (b (σ 6 c) * 2 ^ ofs σ c) = nI (Nat.log2 (b (σ 6 c) * 2 ^ ofs σ c)) := if_pos p1
      refine ⟨nI (Nat.log2 (b (σ 6 c) * 2 ^ ofs σ c)), h1, h2, ?_, ?_, r3⟩
      · rw [r1, cal_some, if_pos rfl, rd_at c 30 rfl rfl (by omega), b3, e, if_neg (fun z => by
          have := nI_pos' (n := Nat.log2 (b (σ 6 c) * 2 ^ ofs σ c)) (by omega)
          rw [z] at this
          exact absurd this (by decide))]
        rfl
      · rw [r2, cal_some, if_pos (nI_pos' (by omega)), manyOf_eq sl, cal_some, if_pos (by rw [p1]; rfl)]
        have pe := placeIn_eq (h := h2) q2
        rw [← q1] at pe
        rw [pe, cal_some]
        rfl
    · have e : spI (b (σ 6 c) * 2 ^ ofs σ c) = -1 := if_neg p1
      refine ⟨-6, h1, h2, ?_, ?_, r3⟩
      · rw [r1, cal_some, if_pos rfl, rd_at c 30 rfl rfl (by omega), b3, e, if_pos rfl]
        rfl
      · rw [r2, cal_some, if_pos (nI_pos' (by omega)), manyOf_eq sl, cal_some, if_neg (fun z => p1 ((n_eq (Y := 1) (b := 1) rfl rfl (by omega) (by omega)).mp z))]
        rfl
end Rivals
