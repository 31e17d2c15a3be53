/-! THE STATE: numbers that both sides hold -/
abbrev Sg : Type := Nat → Nat → Nat
/-- σ 0: rows, columns, pieces, copies, bars; 1 rows, 2 columns, 3 margins, 4 first copy, 5 out, of pieces; 6 piece, 7 marks (8 a copy), 8 and 9 letters (one up), 10 wear, 11 day (one up), 12 shade, of copies; 13, 14 bars -/
def us (σ : Sg) (k j v : Nat) : Sg := fun a b => if a = k ∧ b = j then v else σ a b
theorem us_s (σ : Sg) (k j v : Nat) : us σ k j v k j = v := by simp [us]
theorem us_k (σ : Sg) {k j v a b : Nat} (h : a ≠ k) : us σ k j v a b = σ a b := by simp [us, h]
theorem us_j (σ : Sg) {k j v a b : Nat} (h : b ≠ j) : us σ k j v a b = σ a b := by simp [us, h]
def enc (k v : Nat) : Int32 := if k = 8 ∨ k = 9 ∨ k = 11 then nI v - 1 else nI v
/-- where the reference holds the numbers -/
def nS (i : Nat) : Nat := match i with
  | 0 => 0
  | 1 => 1
  | 2 => 2
  | 3 => 8
  | _ => 16
def MS (σ : Sg) (h : Hp) : Prop := (∀ i, i < 5 → h 28 (nS i) = nI (σ 0 i)) ∧ ∀ k, 1 ≤ k → k ≤ 14 → ∀ j, j < alen (28 + k) → h (28 + k) j = enc k (σ k j)
theorem MS.n {σ : Sg} {h : Hp} (m : MS σ h) (i : Nat) (hi : i < 5) : h 28 (nS i) = nI (σ 0 i) := m.1 i hi
theorem MS.R {σ : Sg} {h : Hp} (m : MS σ h) : h 28 0 = nI (σ 0 0) := m.1 0 (by decide)
theorem MS.C {σ : Sg} {h : Hp} (m : MS σ h) : h 28 1 = nI (σ 0 1) := m.1 1 (by decide)
theorem MS.np {σ : Sg} {h : Hp} (m : MS σ h) : h 28 2 = nI (σ 0 2) := m.1 2 (by decide)
theorem MS.nc {σ : Sg} {h : Hp} (m : MS σ h) : h 28 8 = nI (σ 0 3) := m.1 3 (by decide)
theorem MS.nb {σ : Sg} {h : Hp} (m : MS σ h) : h 28 16 = nI (σ 0 4) := m.1 4 (by decide)
theorem MS.a {σ : Sg} {h : Hp} (m : MS σ h) (k : Nat) {j : Nat} (h1 : 1 ≤ k) (h2 : k ≤ 14) (hj : j < alen (28 + k)) : h (28 + k) j = enc k (σ k j) := m.2 k h1 h2 j hj
theorem MS.congr {σ : Sg} {h h' : Hp} (m : MS σ h) (h1 : ∀ j, j < 17 → j ≠ 19 → h' 28 j = h 28 j) (h2 : ∀ k, 28 < k → k ≤ 42 → h' k = h k) : MS σ h' := by
  refine ⟨fun i hi => ?_, fun k k1 k2 j hj => ?_⟩
  · rw [h1 (nS i) (by unfold nS; split <;> omega) (by unfold nS; split <;> omega)]
    exact m.1 i hi
  · rw [h2 (28 + k) (by omega) (by omega)]
    exact m.2 k k1 k2 j hj
theorem MS.put {σ : Sg} {h : Hp} (m : MS σ h) (k j v : Nat) (h1 : 1 ≤ k) (h2 : k ≤ 14) : MS (us σ k j v) (up h (28 + k) j (enc k v)) := by
  refine ⟨fun i hi => ?_, fun k' k1 k2 j' hj => ?_⟩
  · rw [up_ne h (show 28 ≠ 28 + k by omega), us_k σ (by omega)]
    exact m.1 i hi
  · by_cases hk : k' = k
    · subst hk
      rw [up_k]
      by_cases hj2 : j' = j
      · subst hj2
        rw [upd_same, us_s]
      · rw [upd_ne hj2, us_j σ hj2]
        exact m.2 k' k1 k2 j' hj
    · rw [up_ne h (show 28 + k' ≠ 28 + k by omega), us_k σ hk]
      exact m.2 k' k1 k2 j' hj
theorem nS_inj {i j : Nat} (hi : i < 5) (hj : j < 5) (h : nS i = nS j) : i = j := by
  have key : ∀ i, i < 5 → ∀ j, j < 5 → nS i = nS j → i = j := by decide
  exact key i hi j hj h
theorem MS.num {σ : Sg} {h : Hp} (m : MS σ h) (i v : Nat) (hi : i < 5) : MS (us σ 0 i v) (up h 28 (nS i) (nI v)) := by
  refine ⟨fun i' hi' => ?_, fun k' k1 k2 j' hj => ?_⟩
  · rw [up_k]
    by_cases he : i' = i
    · subst he
      rw [upd_same, us_s]
    · rw [upd_ne (fun q => he (nS_inj hi' hi q)), us_j σ he]
      exact m.1 i' hi'
  · rw [up_ne h (show 28 + k' ≠ 28 by omega), us_k σ (by omega)]
    exact m.2 k' k1 k2 j' hj
/-- a piece's copies; a copy's row and column in its piece -/
def sz (σ : Sg) (p : Nat) : Nat := σ 1 p * σ 2 p
def rw_ (σ : Sg) (c : Nat) : Nat := (c - σ 4 (σ 6 c)) / σ 2 (σ 6 c)
def cl_ (σ : Sg) (c : Nat) : Nat := (c - σ 4 (σ 6 c)) % σ 2 (σ 6 c)
/-- a bar between two marks -/
def brd (σ : Sg) (m o : Nat) : Bool := (List.range (σ 0 4)).any (fun k => (σ 13 k == m && σ 14 k == o) || (σ 13 k == o && σ 14 k == m))
def thM (σ : Sg) (c : Nat) : Nat := msk (fun m => σ 7 (8 * c + m) == 1) 8
def ntM (σ : Sg) (c : Nat) : Nat := msk (fun m => σ 7 (8 * c + m) == 0) 8
def brM (σ : Sg) (m : Nat) : Nat := msk (brd σ m) 8
def pcF (σ : Sg) (p w : Nat) : Nat := match w with
  | 0 => σ 1 p
  | 1 => σ 2 p
  | 2 => σ 3 p
  | 3 => σ 4 p
  | 4 => σ 4 p + sz σ p
  | _ => σ 5 p
def cpF (σ : Sg) (c w : Nat) : Int32 := match w with
  | 0 => nI (σ 6 c)
  | 1 => nI (rw_ σ c)
  | 2 => nI (cl_ σ c)
  | 3 => nI (σ 8 c) - 1
  | 4 => nI (σ 9 c) - 1
  | 5 => nI (σ 10 c)
  | 6 => nI (σ 11 c) - 1
  | 7 => nI (σ 12 c)
  | 8 => nI (thM σ c)
  | _ => nI (ntM σ c)
/-- the class's State at cells s, a, b, c -/
def CSt (s a b c : Nat) (σ : Sg) (h : Hp) : Prop := (∀ i, i < 5 → h s i = nI (σ 0 i)) ∧ (∀ p w, p < σ 0 2 → w < 6 → h a (6 * p + w) = nI (pcF σ p w)) ∧ (∀ q w, q < σ 0 3 → w < 10 → h b (10 * q + w) = cpF σ q w) ∧ ∀ m, m < 8 → h c m = nI (brM σ m)
theorem CSt.congr {s a b c : Nat} {σ : Sg} {h h' : Hp} (m : CSt s a b c σ h) (h1 : ∀ i, i < 5 → h' s i = h s i) (h2 : h' a = h a) (h3 : h' b = h b) (h4 : h' c = h c) : CSt s a b c σ h' := ⟨fun i hi => by rw [h1 i hi]; exact m.1 i hi, fun p w hp hw => by rw [h2]; exact m.2.1 p w hp hw, fun q w hq hw => by rw [h3]; exact m.2.2.1 q w hq hw, fun i hi => by rw [h4]; exact m.2.2.2 i hi⟩
abbrev CS (σ : Sg) (h : Hp) : Prop := CSt 1 6 7 8 σ h
/-- what holds of the numbers -/
def WF (σ : Sg) : Prop := (1 ≤ σ 0 0 ∧ σ 0 0 ≤ 3 ∧ 1 ≤ σ 0 1 ∧ σ 0 1 ≤ 4 ∧ σ 0 0 * σ 0 1 ≤ 9 ∧ σ 0 2 ≤ 5 ∧ σ 0 4 ≤ 6) ∧
  (∀ p, p < σ 0 2 → 1 ≤ σ 1 p ∧ σ 1 p ≤ 2 ∧ 1 ≤ σ 2 p ∧ σ 2 p ≤ 3 ∧ σ 3 p ≤ 15 ∧ σ 5 p ≤ 1) ∧
  ((0 < σ 0 2 → σ 4 0 = 0) ∧ (∀ p, p + 1 < σ 0 2 → σ 4 (p + 1) = σ 4 p + sz σ p) ∧ (σ 0 2 = 0 → σ 0 3 = 0) ∧ (∀ p, p + 1 = σ 0 2 → σ 0 3 = σ 4 p + sz σ p)) ∧
  (∀ p c, p < σ 0 2 → σ 4 p ≤ c → c < σ 4 p + sz σ p → σ 6 c = p) ∧
  (∀ c, c < σ 0 3 → (∀ m, m < 8 → σ 7 (8 * c + m) ≤ 2) ∧ σ 8 c ≤ 3 ∧ σ 9 c ≤ 4 ∧ σ 10 c ≤ 99 ∧ σ 11 c ≤ 1000 ∧ σ 12 c ≤ 5) ∧
  (∀ k, k < σ 0 4 → σ 13 k < 8 ∧ σ 14 k < 8 ∧ σ 13 k ≠ σ 14 k)
section Wf
variable {σ : Sg} (w : WF σ)
theorem WF.sz_le (w : WF σ) {p : Nat} (hp : p < σ 0 2) : 1 ≤ sz σ p ∧ sz σ p ≤ 6 := by
  obtain ⟨h1, h2, h3, h4, -⟩ := w.2.1 p hp
  unfold sz
  have h5 : 1 * 1 ≤ σ 1 p * σ 2 p := Nat.mul_le_mul h1 h3
  have h6 : σ 1 p * σ 2 p ≤ 2 * 3 := Nat.mul_le_mul h2 h4
  omega
theorem WF.fi_le (w : WF σ) : ∀ {p : Nat}, p < σ 0 2 → σ 4 p ≤ 6 * p
  | 0, hp => by rw [w.2.2.1.1 hp]; omega
  | p + 1, hp => by
    have h1 := WF.fi_le w (p := p) (by omega)
    have h2 := w.sz_le (p := p) (by omega)
    rw [w.2.2.1.2.1 p hp]
    omega
theorem WF.nc_le (w : WF σ) : σ 0 3 ≤ 30 := by
  have hnp : σ 0 2 ≤ 5 := w.1.2.2.2.2.2.1
  cases hn : σ 0 2 with
  | zero => rw [w.2.2.1.2.2.1 hn]; omega
  | succ p =>
    rw [w.2.2.1.2.2.2 p hn.symm]
    have h1 := w.fi_le (p := p) (by omega)
    have h2 := w.sz_le (p := p) (by omega)
    omega
/-- a piece's copies lie below the count -/
theorem WF.end_le (w : WF σ) {p : Nat} (hp : p < σ 0 2) : σ 4 p + sz σ p ≤ σ 0 3 := by
  have key : ∀ d p, p + 1 + d = σ 0 2 → σ 4 p + sz σ p ≤ σ 0 3 := by
    intro d
    induction d with
    | zero => intro p hp; rw [w.2.2.1.2.2.2 p (by omega)]; omega
    | succ d ih =>
      intro p hp
      have h1 := ih (p + 1) (by omega)
      rw [w.2.2.1.2.1 p (by omega)] at h1
      omega
  exact key (σ 0 2 - (p + 1)) p (by omega)
/-- every copy has its piece -/
theorem WF.po (w : WF σ) {c : Nat} (hc : c < σ 0 3) : σ 6 c < σ 0 2 ∧ σ 4 (σ 6 c) ≤ c ∧ c < σ 4 (σ 6 c) + sz σ (σ 6 c) := by
  have key : ∀ n, n ≤ σ 0 2 → (n = 0 ∨ ∃ p, p + 1 = n ∧ (c < σ 4 p + sz σ p → ∃ q, q < n ∧ σ 4 q ≤ c ∧ c < σ 4 q + sz σ q)) := by
    intro n
    induction n with
    | zero => intro _; exact Or.inl rfl
    | succ n ih =>
      intro hn
      right
      refine ⟨n, rfl, fun hlt => ?_⟩
      rcases Nat.lt_or_ge c (σ 4 n) with h1 | h1
      · rcases ih (by omega) with h2 | ⟨p, h2, h3⟩
        · subst h2
          rw [w.2.2.1.1 (by omega)] at h1
          omega
        · subst h2
          rw [w.2.2.1.2.1 p (by omega)] at h1
          obtain ⟨q, a1, a2, a3⟩ := h3 h1
          exact ⟨q, by omega, a2, a3⟩
      · exact ⟨n, by omega, h1, hlt⟩
  rcases key (σ 0 2) (Nat.le_refl _) with h | ⟨p, h1, h2⟩
  · rw [w.2.2.1.2.2.1 h] at hc
    omega
  · have h3 := w.2.2.1.2.2.2 p h1
    obtain ⟨q, a1, a2, a3⟩ := h2 (by omega)
    have h4 := w.2.2.2.1 q c a1 a2 a3
    rw [h4]
    exact ⟨a1, a2, a3⟩
theorem WF.rw_lt (w : WF σ) {c : Nat} (hc : c < σ 0 3) : rw_ σ c < σ 1 (σ 6 c) := by
  obtain ⟨h1, h2, h3⟩ := w.po hc
  obtain ⟨a1, a2, a3, a4, -⟩ := w.2.1 _ h1
  unfold rw_
  rw [Nat.div_lt_iff_lt_mul (by omega)]
  unfold sz at h3
  omega
theorem WF.cl_lt (w : WF σ) {c : Nat} (hc : c < σ 0 3) : cl_ σ c < σ 2 (σ 6 c) := by
  obtain ⟨h1, h2, h3⟩ := w.po hc
  obtain ⟨a1, a2, a3, a4, -⟩ := w.2.1 _ h1
  exact Nat.mod_lt _ (by omega)
theorem WF.off (w : WF σ) {c : Nat} (hc : c < σ 0 3) : c = σ 4 (σ 6 c) + (rw_ σ c * σ 2 (σ 6 c) + cl_ σ c) := by
  obtain ⟨h1, h2, h3⟩ := w.po hc
  have := Nat.div_add_mod (c - σ 4 (σ 6 c)) (σ 2 (σ 6 c))
  unfold rw_ cl_
  rw [Nat.mul_comm] at this
  omega
end Wf
theorem thM_lt (σ : Sg) (c : Nat) : thM σ c < 256 := msk_lt _ 8
theorem ntM_lt (σ : Sg) (c : Nat) : ntM σ c < 256 := msk_lt _ 8
theorem brM_lt (σ : Sg) (m : Nat) : brM σ m < 256 := msk_lt _ 8
theorem thM_bit (σ : Sg) (c : Nat) {m : Nat} (hm : m < 8) : (thM σ c).testBit m = (σ 7 (8 * c + m) == 1) := by
  unfold thM; rw [msk_bit]; simp [hm]
theorem ntM_bit (σ : Sg) (c : Nat) {m : Nat} (hm : m < 8) : (ntM σ c).testBit m = (σ 7 (8 * c + m) == 0) := by
  unfold ntM; rw [msk_bit]; simp [hm]
theorem brM_bit (σ : Sg) (m : Nat) {o : Nat} (ho : o < 8) : (brM σ m).testBit o = brd σ m o := by
  unfold brM; rw [msk_bit]; simp [ho]
-- the class's readers
section Rd
variable {σ : Sg} {h : Hp}
theorem pieceFact_eq {W : Int32} {p w : Nat} (w0 : WF σ) (cs : CS σ h) (hp : p < σ 0 2) (hW : W = nI w) (hw : w < 6) : fT_pieceFact h (nI p) W = some (nI (pcF σ p w), h) := by
  have h5 := w0.1.2.2.2.2.2.1
  unfold fT_pieceFact
  rw [rd_at (6 * p + w) 30 rfl (n_ix (Mm := 6) rfl hW) (by omega), cs.2.1 p w hp hw]
  rfl
theorem copyFact_eq {W : Int32} {c w : Nat} (w0 : WF σ) (cs : CS σ h) (hc : c < σ 0 3) (hW : W = nI w) (hw : w < 10) : fT_copyFact h (nI c) W = some (cpF σ c w, h) := by
  have h5 := w0.nc_le
  unfold fT_copyFact
  rw [rd_at (10 * c + w) 300 rfl (n_ix (Mm := 10) rfl hW) (by omega), cs.2.2.1 c w hc hw]
  rfl
theorem hasPiece_eq (cs : CS σ h) (x : Int32) : fT_hasPiece h x = some (bI (wn x 0 (nI (σ 0 2) - 1)), h) := by
  unfold fT_hasPiece
  rw [isWithin_eq, cal_some, cs.1 2 (by decide), retz_b]
theorem hasCopy_eq (cs : CS σ h) (x : Int32) : fT_hasCopy h x = some (bI (wn x 0 (nI (σ 0 3) - 1)), h) := by
  unfold fT_hasCopy
  rw [isWithin_eq, cal_some, cs.1 3 (by decide), retz_b]
theorem places_eq (cs : CS σ h) : fT_places h = some (nI (σ 0 0 * σ 0 1), h) := by
  unfold fT_places
  rw [cs.1 0 (by decide), cs.1 1 (by decide), n_mul]
  rfl
theorem hasPlace_eq (cs : CS σ h) (x : Int32) : fT_hasPlace h x = some (bI (wn x 0 (nI (σ 0 0 * σ 0 1) - 1)), h) := by
  unfold fT_hasPlace
  rw [places_eq cs, cal_some, isWithin_eq, cal_some, retz_b]
theorem isMark_eq (x : Int32) : fX_isMark h x = some (bI (wn x 0 7), h) := by
  unfold fX_isMark
  rw [isWithin_eq, cal_some, retz_b]
theorem isShade_eq (x : Int32) : fX_isShade h x = some (bI (wn x 0 5), h) := by
  unfold fX_isShade
  rw [isWithin_eq, cal_some, retz_b]
theorem markOf_eq {c m : Nat} (w0 : WF σ) (cs : CS σ h) (hc : c < σ 0 3) (hm : m < 8) : fT_markOf h (nI c) (nI m) = some (nI (σ 7 (8 * c + m)), h) := by
  have hv := (w0.2.2.2.2.1 c hc).1 m hm
  unfold fT_markOf
  rw [copyFact_eq (W := 8) (w := 8) w0 cs hc rfl (by decide), cal_some]
  show cal (fX_isIn h (nI (thM σ c)) (nI m)) _ = _
  rw [isIn_eq (Nat.lt_trans (thM_lt σ c) (by decide)) (by omega), cal_some, thM_bit σ c hm, if_b0]
  rcases (show σ 7 (8 * c + m) = 0 ∨ σ 7 (8 * c + m) = 1 ∨ σ 7 (8 * c + m) = 2 by omega) with e | e | e
  · rw [e, show ((0 : Nat) == 1) = false from rfl, cond_false]
    rw [copyFact_eq (W := 9) (w := 9) w0 cs hc rfl (by decide), cal_some]
    show cal (fX_isIn h (nI (ntM σ c)) (nI m)) _ = _
    rw [isIn_eq (Nat.lt_trans (ntM_lt σ c) (by decide)) (by omega), cal_some, ntM_bit σ c hm, e, if_b0]
    rfl
  · rw [e]
    rfl
  · rw [e, show ((2 : Nat) == 1) = false from rfl, cond_false]
    rw [copyFact_eq (W := 9) (w := 9) w0 cs hc rfl (by decide), cal_some]
    show cal (fX_isIn h (nI (ntM σ c)) (nI m)) _ = _
    rw [isIn_eq (Nat.lt_trans (ntM_lt σ c) (by decide)) (by omega), cal_some, ntM_bit σ c hm, e, if_b0]
    rfl
/-- a copy with both marks of a bar -/
def fgC (σ : Sg) (c : Nat) : Bool := (List.range (σ 0 4)).any (fun k => σ 7 (8 * c + σ 13 k) == 1 && σ 7 (8 * c + σ 14 k) == 1)
def fgP (σ : Sg) (p : Nat) : Bool := (List.range (sz σ p)).any (fun i => fgC σ (σ 4 p + i))
def tk (σ : Sg) (p : Nat) : Bool := σ 5 p == 0 && !fgP σ p
theorem fgC_iff (w0 : WF σ) {c : Nat} (hc : c < σ 0 3) : fgC σ c = true ↔ ∃ m, m < 8 ∧ (thM σ c).testBit m = true ∧ (thM σ c &&& brM σ m) ≠ 0 := by
  unfold fgC
  rw [List.any_eq_true]
  constructor
  · rintro ⟨k, hk, h2⟩
    rw [List.mem_range] at hk
    rw [Bool.and_eq_true] at h2
    obtain ⟨b1, b2, b3⟩ := w0.2.2.2.2.2 k hk
    refine ⟨σ 13 k, b1, by rw [thM_bit σ c b1]; exact h2.1, fun hz => ?_⟩
    have hb : (thM σ c &&& brM σ (σ 13 k)).testBit (σ 14 k) = true := by
      rw [Nat.testBit_and, thM_bit σ c b2, brM_bit σ _ b2, h2.2, Bool.true_and]
      unfold brd
      rw [List.any_eq_true]
      exact ⟨k, List.mem_range.mpr hk, by simp⟩
    rw [hz] at hb
    simp at hb
  · rintro ⟨m, hm, h1, h2⟩
    obtain ⟨o, ho⟩ : ∃ o, (thM σ c &&& brM σ m).testBit o = true := Nat.exists_testBit_of_ne_zero h2
    rw [Nat.testBit_and, Bool.and_eq_true] at ho
    have ho8 : o < 8 := by
      rcases Nat.lt_or_ge o 8 with q | q
      · exact q
      · have := Nat.testBit_lt_two_pow (Nat.lt_of_lt_of_le (thM_lt σ c) (Nat.pow_le_pow_right (by decide : 0 < 2) q))
        rw [this] at ho
        simp at ho
    rw [thM_bit σ c ho8, brM_bit σ m ho8] at ho
    rw [thM_bit σ c hm] at h1
    unfold brd at ho
    rw [List.any_eq_true] at ho
    obtain ⟨ho1, k, hk, hk2⟩ := ho
    refine ⟨k, hk, ?_⟩
    simp only [Bool.or_eq_true, Bool.and_eq_true, beq_iff_eq] at hk2
    rcases hk2 with ⟨a1, a2⟩ | ⟨a1, a2⟩
    · rw [a1, a2, h1, ho1]; rfl
    · rw [a1, a2, h1, ho1]; rfl
theorem isBarred_eq {c : Nat} (w0 : WF σ) (cs : CS σ h) (hc : c < σ 0 3) : fT_isBarred h (nI (thM σ c)) = some (bI (fgC σ c), h) := by
  unfold fT_isBarred
  have hth := thM_lt σ c
  refine loopF (fun n (a : Int32 × Hp) => fT_isBarred_L2 (nI (thM σ c)) n a.1 a.2) (fun i a => a = (nI i, h) ∧ ∀ m, m < i → (thM σ c).testBit m = true → (thM σ c &&& brM σ m) = 0) (fun o => o = some (bI (fgC σ c), h)) 8 (by decide) ?_ ?_ 0 (0, h) (by decide) ⟨rfl, fun m hm => by omega⟩
  · rintro i a n hi ⟨rfl, hI⟩
    have hbr := brM_lt σ i
    show (∃ a', _) ∨ fT_isBarred_L2 (nI (thM σ c)) (n + 1) (nI i) h = _
    simp only [fT_isBarred_L2, jn]
    rw [if_neg (fun q => by have := (n_le (X := 8) (a := 8) rfl rfl (by omega) (by omega)).mp q; omega)]
    by_cases hb : (thM σ c).testBit i = true
    · rw [if_pos ((bit_is (by omega) (by omega)).mpr hb), rd_at i 8 rfl rfl hi, cs.2.2.2 i hi, n_and]
      have hand : thM σ c &&& brM σ i < 2 ^ 8 := Nat.and_lt_two_pow _ hbr
      by_cases hz : (thM σ c &&& brM σ i) = 0
      · rw [if_pos (by rw [hz]; rfl)]
        refine Or.inl ⟨(nI (i + 1), h), ⟨rfl, fun m hm hm2 => ?_⟩, by rw [n_s1]⟩
        rcases (show m < i ∨ m = i by omega) with q | q
        · exact hI m q hm2
        · rw [q]; exact hz
      · rw [if_neg (fun q => hz ((n_eq (Y := 0) (b := 0) rfl rfl (by omega) (by omega)).mp q))]
        right
        rw [(fgC_iff w0 hc).mpr ⟨i, hi, hb, hz⟩]
        rfl
    · rw [if_neg (fun q => hb ((bit_is (by omega) (by omega)).mp q))]
      refine Or.inl ⟨(nI (i + 1), h), ⟨rfl, fun m hm hm2 => ?_⟩, by rw [n_s1]⟩
      rcases (show m < i ∨ m = i by omega) with q | q
      · exact hI m q hm2
      · rw [q] at hm2; exact absurd hm2 hb
  · rintro a n ⟨rfl, hI⟩
    show fT_isBarred_L2 (nI (thM σ c)) (n + 1) (nI 8) h = _
    simp only [fT_isBarred_L2]
    rw [if_pos (show (8 : Int32) ≤ nI 8 from by decide)]
    have hf : fgC σ c = false := by
      cases hq : fgC σ c with
      | false => rfl
      | true =>
        obtain ⟨m, hm, h1, h2⟩ := (fgC_iff w0 hc).mp hq
        exact absurd (hI m hm h1) h2
    rw [hf]
    rfl
end Rd
