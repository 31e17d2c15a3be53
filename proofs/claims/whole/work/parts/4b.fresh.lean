/-! A FRESH SEARCH AGREES WITH THE REFERENCE -/
section Fresh
variable {σ : Sg} {gr : Nat → Nat} {h : Hp}
def ov (σ z : Sg) : Sg := fun k => match k with
  | 10 => z 10
  | 11 => z 11
  | 12 => z 12
  | k => σ k
theorem ov_fgC (σ z : Sg) : fgC (ov σ z) = fgC σ := rfl
theorem ov_fgP (σ z : Sg) : fgP (ov σ z) = fgP σ := rfl
theorem ov_tkp (σ z : Sg) : tkp (ov σ z) = tkp σ := rfl
theorem ov_PP (σ z : Sg) : PP (ov σ z) = PP σ := rfl
theorem ov_ofs (σ z : Sg) : ofs (ov σ z) = ofs σ := rfl
theorem ov_ltC (σ z : Sg) : ltC (ov σ z) = ltC σ := rfl
theorem ov_ltP (σ z : Sg) : ltP (ov σ z) = ltP σ := rfl
theorem ov_ft (σ z : Sg) : ft (ov σ z) = ft σ := rfl
theorem ov_qc (σ z : Sg) : qc (ov σ z) = qc σ := rfl
theorem ov_clI (σ z : Sg) : clI (ov σ z) = clI σ := rfl
theorem ov_cl (σ z : Sg) : cl (ov σ z) = cl σ := rfl
theorem ov_inG (σ z : Sg) : inG (ov σ z) = inG σ := rfl
theorem ov_lead (σ z : Sg) : lead (ov σ z) = lead σ := rfl
theorem ov_inc (σ z : Sg) : inc (ov σ z) = inc σ := rfl
theorem ov_gc (σ z : Sg) : gc (ov σ z) = gc σ := rfl
theorem ov_okg (σ z : Sg) : okg (ov σ z) = okg σ := rfl
theorem ov_Lst (σ z : Sg) : Lst (ov σ z) = Lst σ := rfl
theorem ov_Lm (σ z : Sg) : Lm (ov σ z) = Lm σ := rfl
theorem ov_opM (σ z : Sg) : opM (ov σ z) = opM σ := rfl
theorem ov_allO (σ z : Sg) : allO (ov σ z) = allO σ := rfl
theorem ov_tc (σ z : Sg) : tc (ov σ z) = tc σ := by
  funext gr g r
  induction r with
  | zero => rfl
  | succ r ih =>
    funext i u
    show (if inG (ov σ z) gr g i then inc (ov σ z) gr i u else 0) + tc (ov σ z) gr g r (i + 1) u = _
    rw [ih]
    rfl
theorem ov_okt (σ z : Sg) : okt (ov σ z) = okt σ := by
  funext gr g o r
  induction r with
  | zero => rfl
  | succ r ih =>
    funext i u
    show ((!inG (ov σ z) gr g i || (o i).testBit (u i)) && okt (ov σ z) gr g o r (i + 1) u) = _
    rw [ih]
    rfl
theorem ov_WQ (σ z : Sg) : WQ (ov σ z) = WQ σ := by
  funext gr g o l p v u
  unfold WQ
  rw [ov_tc, ov_okt, ov_inG, ov_PP]
theorem ov_wF (σ z : Sg) : wF (ov σ z) = wF σ := by
  funext gr g o l p u
  unfold wF
  rw [ov_tc, ov_okt]
theorem ov_wS (σ z : Sg) : wS (ov σ z) = wS σ := by
  funext gr g o l p v
  unfold wS
  rw [ov_wF, ov_inG, ov_PP]
theorem ov_Wy (σ z : Sg) : Wy (ov σ z) = Wy σ := by
  funext gr g
  unfold Wy
  rw [ov_wS, ov_opM, ov_Lm]
theorem ov_SG (σ z : Sg) : SG (ov σ z) = SG σ := by
  funext gr p b h
  unfold SG
  rw [ov_WQ, ov_Wy, ov_Lm, ov_lead, ov_Lst, ov_opM, ov_tkp]
theorem ov_GRP (σ z : Sg) : GRP (ov σ z) = GRP σ := by
  funext gr
  unfold GRP
  rw [ov_tkp, ov_ft, ov_cl, ov_PP]
theorem ov_GH (σ z : Sg) : GH (ov σ z) = GH σ := by
  funext gr
  unfold GH
  rw [ov_tkp, ov_ft, ov_cl, ov_PP]
theorem ov_PK (σ z : Sg) : PK (ov σ z) = PK σ := rfl
theorem SF_ov (σ z : Sg) (h : Hp) : SF (ov σ z) h = SF σ h := by
  unfold SF BF
  rw [ov_SG, ov_GRP, ov_GH, ov_PK, ov_tkp, ov_ft, ov_PP, ov_ofs, ov_allO]
  rfl
theorem ov_eq {σ σ' : Sg} (hk : ∀ k, k < 10 ∨ 12 < k → σ' k = σ k) : σ' = ov σ σ' := by
  funext k
  by_cases q : k < 10 ∨ 12 < k
  · rw [hk k q]
    unfold ov
    split
    · omega
    · omega
    · omega
    · rfl
  · rcases (show k = 10 ∨ k = 11 ∨ k = 12 by omega) with e | e | e <;> rw [e] <;> rfl
theorem GH_fr {h' : Hp} (hk : ∀ k, (k = 3 ∨ 12 ≤ k) → k < 27 → h' k = h k) (gh : GH σ gr h) : GH σ gr h' := gh.keep (hk 14 (by omega) (by omega)) (hk 15 (by omega) (by omega)) (hk 26 (by omega) (by omega))
theorem SF_fr {h' : Hp} (hk : ∀ k, (k = 3 ∨ 12 ≤ k) → k < 27 → h' k = h k) (sf : SF σ h) : SF σ h' := by
  obtain ⟨a1, b, a2, a3, a4, a5⟩ := sf
  refine ⟨by rw [hk 3 (by omega) (by omega)]; exact a1, b, fun q hq => by rw [hk 17 (by omega) (by omega)]; exact a2 q hq, a3, fun c hc => by rw [hk 12 (by omega) (by omega)]; exact a4 c hc, ?_⟩
  rcases a5 with ⟨c1, c2, c3⟩ | ⟨c1, gr, c2, c3, c4, c5, c6⟩
  · exact Or.inl ⟨c1, by rw [hk 3 (by omega) (by omega)]; exact c2, c3⟩
  · refine Or.inr ⟨c1, gr, c2, GH_fr hk c3, fun p hp => by rw [hk 13 (by omega) (by omega)]; exact c4 p hp, ⟨fun g hg lg => by rw [hk 18 (by omega) (by omega), hk 19 (by omega) (by omega), hk 22 (by omega) (by omega)]; exact c5.1 g hg lg, fun q hq => by rw [hk 17 (by omega) (by omega)]; exact c5.2.1 q hq, c5.2.2.1, by rw [hk 3 (by omega) (by omega)]; exact c5.2.2.2.1, by rw [hk 3 (by omega) (by omega)]; exact c5.2.2.2.2⟩, ?_⟩
    unfold PK
    rw [hk 3 (by omega) (by omega), hk 21 (by omega) (by omega)]
    exact c6
theorem SF_ok : XOk SF := fun σ σ' h h' sf hs hk => by
  rw [ov_eq hs, SF_ov]
  exact SF_fr hk sf
theorem cntP_0 {f : Nat → Bool} : ∀ {n}, (∀ i, i < n → f i = false) → cntP f n = 0
  | 0, _ => rfl
  | n + 1, hf => by rw [cntP_f (hf n (by omega)), cntP_0 (fun i hi => hf i (by omega))]
/-- the best spots are those of the best layings -/
theorem b_iff (w : WF σ) (G : GRP σ gr) (hL : ∀ g, lead σ gr g = true → Lst σ gr g (Lm σ gr g)) {b : Nat → Nat} (sg : SG σ gr 5 b h) (q t : Nat) : (b q).testBit t = true ↔ (tkp σ q = true ∧ ∃ n, n < tot σ ∧ gd σ (Lsum σ gr (Lm σ gr)) n = true ∧ nth σ n q = t) := by
  rw [sg.2.2.1 q t]
  constructor
  · rintro ⟨a1, a2, u, a3, a4⟩
    refine ⟨a2, ?_⟩
    have lq := lead_of w G (inG_iff.mpr ⟨a2, rfl⟩)
    obtain ⟨n, n1, n2, n3⟩ := ext_best w G hL lq (WQ_bst (Lg := Lm σ gr) w G a1 a3)
    exact ⟨n, n1, n2, by rw [n3 q a2 rfl]; exact a4⟩
  · rintro ⟨a2, n, n1, n2, n3⟩
    have gq : inG σ gr (gr q) q = true := inG_iff.mpr ⟨a2, rfl⟩
    have lq := lead_of w G gq
    have g5 := tkp5 w (lead_iff.mp lq).1
    exact ⟨g5, a2, _, bst_WQ (Lg := Lm σ gr) w G g5 (bst_of w G hL n1 n2 lq), by rw [rs_in gq]; exact n3⟩
theorem SG_L (w : WF σ) {b : Nat → Nat} (sg : SG σ gr 5 b h) : ∀ g, lead σ gr g = true → Lst σ gr g (Lm σ gr g) := fun g hg => (sg.1 g (tkp5 w (lead_iff.mp hg).1) hg).2.2.1
theorem SG_cnt (w : WF σ) (G : GRP σ gr) {b : Nat → Nat} (sg : SG σ gr 5 b h) : cntP (gd σ (Lsum σ gr (Lm σ gr))) (tot σ) = prN (fun g => if lead σ gr g then Wy σ gr g else 1) 5 := by
  rw [cnt_tot w G (SG_L w sg)]
  refine prN_congr (fun g hg => ?_)
  by_cases lg : lead σ gr g = true
  · rw [if_pos lg]
    exact (W_SI (Lg := Lm σ gr) w G lg).symm
  · rw [if_neg lg]
    have e := SI_skip (P := PP σ) (sel := inG σ gr g) (v := fun _ => 0) (F := ind σ gr (Lm σ gr) g) 5 0 0 (fun j _ _ => by
      cases q : inG σ gr g j with
      | false => rfl
      | true => exact absurd (lead_of w G q) lg)
    rw [show 5 + 0 = 5 from rfl] at e
    rw [e]
    show ind σ gr (Lm σ gr) g (fun _ => 0) = 1
    unfold ind
    rw [if_neg lg]
theorem SF_FN (w : WF σ) {x1 : Int32} {h2 : Hp} {L : Nat} (sf : SF σ h) (fn : FN σ x1 h2 (tot σ) L) : h 3 4 = h2 28 31 ∧ (h2 28 31 ≠ 0 → h 3 5 = h2 28 30) ∧ ∃ b, BS b h ∧ BF σ b ∧ (∀ q, tkp σ q = false → b q = 0) ∧ ∀ c, c < σ 0 3 → h 12 c = spI (b (σ 6 c) * 2 ^ ofs σ c) ∧ h2 52 c = nI (b (σ 6 c) * 2 ^ ofs σ c) := by
  have c30 := w.nc_le
  obtain ⟨a1, b, a2, a3, a4, a5⟩ := sf
  obtain ⟨⟨f1, f2⟩, f3, f4, f5, ⟨B, fB⟩, f6⟩ := fn
  rcases a5 with ⟨c1, c2, c3⟩ | ⟨c1, gr, G, c3, c4, sg, c6⟩
  · have none : ∀ n, n < tot σ → gd σ L n = false := fun n hn => by
      cases q : gd σ L n with
      | false => rfl
      | true =>
        exfalso
        have v := (vl_iff w).mp (gd_iff.mp q).1
        have p := nth_in w hn
        have : alP (allO σ) 5 = true := alP_iff.mpr (fun i hi => by
          unfold allO
          cases t : tkp σ i with
          | false => rfl
          | true =>
            have z : spM σ i ≠ 0 := fun z => by
              have e : (spM σ i).testBit (nth σ n i) = true := by
                unfold spM
                rw [msk_bit, Bool.and_eq_true, decide_eq_true_eq]
                exact ⟨p i t, v i t⟩
              rw [z, Nat.zero_testBit] at e
              exact absurd e (by decide)
            rw [beq_false_of_ne z]
            rfl)
        rw [this] at c1
        exact absurd c1 (by decide)
    have z : cntP (gd σ L) (tot σ) = 0 := cntP_0 none
    refine ⟨by rw [c2, f5, z]; rfl, fun q => absurd (by rw [f5, z]; rfl) q, b, a2, a3, fun q _ => c3 q, fun c hc => ⟨a4 c hc, ?_⟩⟩
    obtain ⟨g1, g2, g3⟩ := fB c (by omega)
    have : B c = 0 := nat_ext (n := 15) g2 (by decide) (fun i _ => by
      rw [Nat.zero_testBit]
      cases q : (B c).testBit i with
      | false => rfl
      | true =>
        obtain ⟨-, -, n, n1, n2, -⟩ := (g3 i).mp q
        rw [none n n1] at n2
        exact absurd n2 (by decide))
    rw [g1, this, c3, Nat.zero_mul]
  · have hL := SG_L w sg
    have eL : L = Lsum σ gr (Lm σ gr) := least_is w G hL ⟨⟨f1, f2⟩, f3, f4, f5, ⟨B, fB⟩, f6⟩
    subst eL
    refine ⟨by rw [sg.2.2.2.2, f5, SG_cnt w G sg], fun _ => by rw [sg.2.2.2.1, f1]; rfl, b, a2, a3, fun q hq => ?_, fun c hc => ⟨a4 c hc, ?_⟩⟩
    · refine Nat.eq_of_testBit_eq (fun i => ?_)
      rw [Nat.zero_testBit]
      cases z : (b q).testBit i with
      | false => rfl
      | true =>
        have := ((b_iff w G hL sg q i).mp z).1
        rw [hq] at this
        exact absurd this (by decide)
    · obtain ⟨g1, g2, g3⟩ := fB c (by omega)
      have : B c = b (σ 6 c) * 2 ^ ofs σ c := nat_ext (n := 15) g2 (Nat.lt_trans (shift_lt w a3 hc) (by decide)) (fun i _ => by
        rw [Bool.eq_iff_iff, g3 i, Nat.testBit_mul_two_pow, Bool.and_eq_true, decide_eq_true_eq, b_iff w G hL sg]
        constructor
        · rintro ⟨-, z2, n, z3, z4, z5⟩
          exact ⟨by omega, z2, n, z3, z4, by omega⟩
        · rintro ⟨z1, z2, n, z3, z4, z5⟩
          exact ⟨hc, z2, n, z3, z4, by omega⟩)
      rw [g1, this]
/-- what holds of the told -/
def ST (σ : Sg) (h : Hp) : Prop := WF σ ∧ MS σ h ∧ CS σ h ∧ KP h ∧ ∀ p, p < 5 → σ 5 p ≤ 1
/-- what an op that asks may change -/
def FrA (h h' : Hp) : Prop := (∀ k, (k < 3 ∨ 3 < k) → (k < 12 ∨ 27 < k) → k < 48 → k ≠ 28 → h' k = h k) ∧ ∀ j, j < 25 → h' 28 j = h 28 j
theorem FrA.refl (h : Hp) : FrA h h := ⟨fun _ _ _ _ _ => rfl, fun _ _ => rfl⟩
theorem FrA.trans {h h1 h2 : Hp} (a : FrA h h1) (b : FrA h1 h2) : FrA h h2 := ⟨fun k k1 k2 k3 k4 => (b.1 k k1 k2 k3 k4).trans (a.1 k k1 k2 k3 k4), fun j hj => (b.2 j hj).trans (a.2 j hj)⟩
theorem FrA.ofC {h h' : Hp} (a : FrC h h') : FrA h h' := ⟨fun k k1 k2 _ _ => a k (by omega) (by omega), fun j _ => by rw [a 28 (by decide) (by omega)]⟩
theorem FrA.ofS {h h' : Hp} (a : FrS h h') : FrA h h' := ⟨fun k _ _ k3 k4 => a.1 k k3 k4, a.2⟩
theorem ST.fr {h' : Hp} (s : ST σ h) (f : FrA h h') : ST σ h' := by
  obtain ⟨w, ms, cs, kp, ho⟩ := s
  exact ⟨w, ms.congr (fun j hj _ => f.2 j (by omega)) (fun k k1 k2 => f.1 k (by omega) (by omega) (by omega) (by omega)), cs.keep (fun k hk => f.1 k (by omega) (by omega) (by omega) (by omega)), kp.congr (by rw [f.1 0 (by omega) (by omega) (by omega) (by omega)]) (f.2 19 (by omega)) (f.1 2 (by omega) (by omega) (by omega) (by omega)) (fun c c1 c2 => f.1 c (by omega) (by omega) (by omega) (by omega)) (fun c c1 c2 => f.1 c (by omega) (by omega) (by omega) (by omega)), ho⟩
theorem ST.inv (s : ST σ h) (hx : h 3 2 = 1 ∨ (h 3 2 = 0 ∧ SF σ h)) : InvX SF h := ⟨σ, s.1, s.2.1, s.2.2.1, s.2.2.2.1, s.2.2.2.2, hx⟩
/-- both have searched -/
theorem both (s : ST σ h) (hx : h 3 2 = 1 ∨ (h 3 2 = 0 ∧ SF σ h)) (x1 : Int32) : ∃ h1, fS_settle h = some (0, h1) ∧ FrC h h1 ∧ h1 3 2 = 0 ∧ SF σ h1 ∧ ST σ h1 := by
  obtain ⟨h1, a, b, c, d⟩ := settle_eq s.1 s.2.2.1 hx
  exact ⟨h1, a, b, c, d, s.fr (FrA.ofC b)⟩
theorem both2 (s : ST σ h) (h32 : h 3 2 = 0) (sf : SF σ h) (x1 : Int32) : ∃ h2 L, fM_find h x1 = some (0, h2) ∧ FS σ h h2 ∧ FN σ x1 h2 (tot σ) L ∧ ST σ h2 ∧ h2 3 2 = 0 ∧ SF σ h2 := by
  obtain ⟨h2, L, a, b, c⟩ := find_eq s.1 s.2.1 x1
  exact ⟨h2, L, a, b, c, s.fr (FrA.ofS b.1), by rw [b.1.1 3 (by decide) (by decide)]; exact h32, SF_fr (fun k k1 k2 => b.1.1 k (by omega) (by omega)) sf⟩
theorem ag_quarrel : Agr (InvX SF) (fun h => fX_quarrel h) (fun h => fM_quarrel h) := by
  rintro h ⟨σ, w, ms, cs, kp, ho, hx⟩
  have st : ST σ h := ⟨w, ms, cs, kp, ho⟩
  obtain ⟨h1, s1, s2, s3, sf, st1⟩ := both st hx 0
  obtain ⟨h2, L, m1, m2, fn, st2, m3, sf2⟩ := both2 st1 s3 sf (-1)
  obtain ⟨e1, e2, -⟩ := SF_FN w sf fn
  dsimp only
  unfold fX_quarrel fM_quarrel
  by_cases z : h2 28 31 = 0
  · exact ⟨-4, h1, h2, by rw [s1, cal_some, e1, if_pos z]; rfl, by rw [m1, cal_some, if_pos z]; rfl, st2.inv (Or.inr ⟨m3, sf2⟩)⟩
  · exact ⟨h1 3 5, h1, h2, by rw [s1, cal_some, e1, if_neg z]; rfl, by rw [m1, cal_some, if_neg z, e2 z]; rfl, st2.inv (Or.inr ⟨m3, sf2⟩)⟩
theorem ag_layings : Agr (InvX SF) (fun h => fX_layings h) (fun h => fM_layings h) := by
  rintro h ⟨σ, w, ms, cs, kp, ho, hx⟩
  have st : ST σ h := ⟨w, ms, cs, kp, ho⟩
  obtain ⟨h1, s1, s2, s3, sf, st1⟩ := both st hx 0
  obtain ⟨h2, L, m1, m2, fn, st2, m3, sf2⟩ := both2 st1 s3 sf (-1)
  obtain ⟨e1, e2, -⟩ := SF_FN w sf fn
  dsimp only
  unfold fX_layings fM_layings
  exact ⟨h1 3 4, h1, h2, by rw [s1, cal_some]; rfl, by rw [m1, cal_some, e1]; rfl, st2.inv (Or.inr ⟨m3, sf2⟩)⟩
end Fresh
