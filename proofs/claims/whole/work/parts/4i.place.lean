/-! WHAT THE SURE COPIES OF ONE PLACE TELL -/
section PlaceOps
variable {σ : Sg} {h : Hp}
theorem SU (w : WF σ) (sf : SF σ h) {x : Nat} (hx : x < 9) : cntP (sP h x) (σ 0 3) ≤ 5 := by
  obtain ⟨a1, b, a2, a3, a4, a5⟩ := sf
  exact five (b := b) (x := x) w a3 (fun c hc pc => (spI_iff (shift_lt w a3 hc) hx).mp ((a4 c hc).symm.trans (of_decide_eq_true pc)))
theorem SU2 (w : WF σ) {x1 : Int32} {h2 : Hp} {L : Nat} (sf : SF σ h) (fn : FN σ x1 h2 (tot σ) L) {x c : Nat} (hx : x < 9) (hc : c < σ 0 3) : h2 52 c = nI (2 ^ x) ↔ sP h x c = true := by
  obtain ⟨-, -, b, b1, b2, b3, b4⟩ := SF_FN w sf fn
  have sl := shift_lt w b2 hc
  have l2 : 2 ^ x < 2 ^ 9 := Nat.pow_lt_pow_right (by decide) hx
  unfold sP
  rw [decide_eq_true_eq, (b4 c hc).1, (b4 c hc).2, spI_iff sl hx, nI_eq (by omega) (by omega)]
/-- a line that both have -/
def LN (σ : Sg) (n : Nat) (l : Nat → Nat) : Prop := n ≤ 5 ∧ (∀ i, i < n → l i < σ 0 3) ∧ ∀ i j, i < j → j < n → σ 10 (l i) ≤ σ 10 (l j)
theorem LN_of {x : Nat} (w : WF σ) (sf : SF σ h) (hx : x < 9) : LN σ (cntP (sP h x) (σ 0 3)) (lnS (sP h x) (σ 10) (σ 0 3)) := ⟨SU w sf hx, fun i hi => (lnS_el _ i hi).1, fun i j hij hj => lnS_srt _ i j hij hj⟩
theorem lineUp_eq {x : Nat} (w : WF σ) (cs : CS σ h) (h5 : cntP (sP h x) (σ 0 3) ≤ 5) : ∃ h', fU_lineUp h (nI x) = some (nI (cntP (sP h x) (σ 0 3)), h') ∧ (∀ k, k ≠ 27 → h' k = h k) ∧ ∀ i, i < cntP (sP h x) (σ 0 3) → h' 27 i = nI (lnS (sP h x) (σ 10) (σ 0 3) i) :=
  lineUp_K (Q := fun o => ∃ h', o = some (nI (cntP (sP h x) (σ 0 3)), h') ∧ (∀ k, k ≠ 27 → h' k = h k) ∧ ∀ i, i < cntP (sP h x) (σ 0 3) → h' 27 i = nI (lnS (sP h x) (σ 10) (σ 0 3) i)) w cs h5 (fun h' a b => ⟨h', rfl, a, b⟩)
theorem findOrder_eq {x : Nat} {P : Nat → Bool} (w : WF σ) (ms : MS σ h) (hx : x < 9) (h52 : ∀ c, c < σ 0 3 → (h 52 c = nI (2 ^ x) ↔ P c = true)) (h5 : cntP P (σ 0 3) ≤ 5) : ∃ h', fM_findOrder h (nI x) = some (0, h') ∧ FrO h h' ∧ h' 28 34 = nI (cntP P (σ 0 3)) ∧ ∀ i, i < cntP P (σ 0 3) → h' 54 i = nI (lnS P (σ 10) (σ 0 3) i) :=
  findOrder_K (Q := fun o => ∃ h', o = some (0, h') ∧ FrO h h' ∧ h' 28 34 = nI (cntP P (σ 0 3)) ∧ ∀ i, i < cntP P (σ 0 3) → h' 54 i = nI (lnS P (σ 10) (σ 0 3) i)) w ms hx h52 h5 (fun h' a b c => ⟨h', rfl, a, b, c⟩)
theorem ST.fro {h' : Hp} (s : ST σ h) (f : FrO h h') : ST σ h' := s.fr ⟨fun k _ _ k3 k4 => f.1 k (by omega) k4, fun j hj => f.2 j (by omega)⟩
theorem ST.fr27 {h' : Hp} (s : ST σ h) (f : ∀ k, k ≠ 27 → h' k = h k) : ST σ h' := s.fr ⟨fun k _ k2 _ _ => f k (by omega), fun j _ => by rw [f 28 (by decide)]⟩
theorem sP_fr {h' : Hp} {x : Nat} (f : h' 12 = h 12) : sP h' x = sP h x := by
  funext c
  unfold sP
  rw [f]
theorem ag_line {x : Nat} (A : Hp → Int32 → RO) (B : Hp → RO) (s : ST σ h) (hx : h 3 2 = 1 ∨ (h 3 2 = 0 ∧ SF σ h)) (xP : x < PP σ) (hyp : ∀ n l, LN σ n l → ∃ r, (∀ h', CS σ h' → (∀ i, i < n → h' 27 i = nI (l i)) → A h' (nI n) = some (r, h')) ∧ ∀ h', MS σ h' → h' 28 34 = nI n → (∀ i, i < n → h' 54 i = nI (l i)) → B h' = some (r, h')) : ∃ r h1 h2, cal (fS_settle h) (fun _ h17 => cal (fU_lineUp h17 (nI x)) (fun r25 h25 => A h25 r25)) = some (r, h1) ∧ cal (fM_find h1 (-1)) (fun _ h12 => cal (fM_findOrder h12 (nI x)) (fun _ h17 => B h17)) = some (r, h2) ∧ ST σ h1 ∧ InvX SF h2 := by
  have w := s.1
  have hP := PP_le w
  have x9 : x < 9 := by omega
  obtain ⟨h1, s1, s2, s3, sf, st1⟩ := both s hx 0
  obtain ⟨r, rA, rB⟩ := hyp _ _ (LN_of (x := x) w sf x9)
  obtain ⟨h2, l1, f1, f2⟩ := lineUp_eq w st1.2.2.1 (SU w sf x9)
  have st2 := st1.fr27 f1
  have sf2 : SF σ h2 := SF_fr (fun k k1 k2 => f1 k (by omega)) sf
  have s32 : h2 3 2 = 0 := by rw [f1 3 (by decide)]; exact s3
  obtain ⟨h3, L, m1, m2, fn, st3, m3, sf3⟩ := both2 st2 s32 sf2 (-1)
  have eP : sP h2 x = sP h1 x := sP_fr (f1 12 (by decide))
  obtain ⟨h4, o1, g1, g2, g3⟩ := findOrder_eq (P := sP h1 x) w st3.2.1 x9 (fun c hc => by rw [← eP]; exact SU2 w sf2 fn x9 hc) (SU w sf x9)
  have st4 : ST σ h4 := st3.fro g1
  refine ⟨r, h2, h4, ?_, ?_, st2, st4.inv (Or.inr ⟨by rw [g1.1 3 (by decide) (by decide)]; exact m3, SF_fr (fun k k1 k2 => g1.1 k (by omega) (by omega)) sf3⟩)⟩
  · rw [s1, cal_some, l1, cal_some]
    exact rA h2 st2.2.2.1 f2
  · rw [m1, cal_some, o1, cal_some]
    exact rB h4 st4.2.1 g2 g3
theorem ag_order (x y : Int32) : Agr (InvX SF) (fun h => fX_order h x y) (fun h => fM_order h x y) := by
  rintro h ⟨σ, w, ms, cs, kp, ho, hx⟩
  have st : ST σ h := ⟨w, ms, cs, kp, ho⟩
  have hP := PP_le w
  dsimp only
  unfold fX_order fM_order
  cases hc : wn x 0 (nI (σ 0 0 * σ 0 1) - 1) with
  | false => exact ⟨-1, h, h, by rw [hasPlace_eq cs, cal_some, if_b0, hc]; rfl, by rw [mplace_eq ms, cal_some, if_b0, hc]; rfl, st.inv hx⟩
  | true =>
    have hc0 := hc
    obtain ⟨p, hp, rfl⟩ := (wn_cnt (show σ 0 0 * σ 0 1 < 2 ^ 30 by have := hP.2; unfold PP at this; omega)).mp hc
    obtain ⟨r, h1, h2, r1, r2, st1, iv⟩ := ag_line (x := p) (fun h25 r25 => cal (fX_isWithin h25 y 0 (r25 - 1)) (fun r34 h34 => (if r34 = 0 then ret1 (-4) h34 else rd h34 27 y (fun r48 => ret1 r48 h34)))) (fun h17 => cal (fM_in h17 y 0 ((h17 28 34) - 1)) (fun r28 h28 => (if r28 = 0 then ret1 (-4) h28 else rd h28 54 y (fun r39 => ret1 r39 h28)))) st hx hp (fun n l ln => by
      cases hk : wn y 0 (nI n - 1) with
      | false => exact ⟨-4, fun h' _ _ => by rw [isWithin_eq, cal_some, if_b0, hk]; rfl, fun h' _ e _ => by rw [in_eq, cal_some, if_b0, e, hk]; rfl⟩
      | true =>
        have hk0 := hk
        have := ln.1
        obtain ⟨i, hi, rfl⟩ := (wn_cnt (by omega)).mp hk
        exact ⟨nI (l i), fun h' _ e => by rw [isWithin_eq, cal_some, if_b0, hk0, cond_true, rd_at i 5 rfl rfl (by omega), e i hi]; rfl, fun h' _ e e2 => by rw [in_eq, cal_some, if_b0, e, hk0, cond_true, rd_at i 30 rfl rfl (by omega), e2 i hi]; rfl⟩)
    exact ⟨r, h1, h2, by rw [hasPlace_eq cs, cal_some, if_b0, hc0, cond_true]; exact r1, by rw [mplace_eq st1.2.1, cal_some, if_b0, hc0, cond_true]; exact r2, iv⟩
end PlaceOps
