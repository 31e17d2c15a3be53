/-! UNSEEN AND MANY: THE OPS -/
section LastOps
variable {σ : Sg} {h : Hp}
theorem munseen_eq {hC : Hp} {x1 : Int32} (w : WF σ) (ms : MS σ h) (sf : SF σ hC) (sr : SR σ hC h) (K : Int32 → Int32 → Int32 → Hp → RO) : ∃ h', fM_unseen_L26 K x1 FU 0 0 0 0 h = K (nI (cntP (fun x => !(nx σ hC x == 0)) (PP σ))) (nI (cntP (fun x => nx σ hC x == 1) (PP σ))) (nI (cntP (fun x => nx σ hC x == 2) (PP σ))) h' ∧ FrO h h' :=
  munseen_K (Q := fun o => ∃ h', o = K (nI (cntP (fun x => !(nx σ hC x == 0)) (PP σ))) (nI (cntP (fun x => nx σ hC x == 1) (PP σ))) (nI (cntP (fun x => nx σ hC x == 2) (PP σ))) h' ∧ FrO h h') w ms sf sr (fun h' f => ⟨h', rfl, f⟩)
theorem ag_unseen (x : Int32) : Agr (InvX SF) (fun h => fX_unseen h x) (fun h => fM_unseen h x) := by
  rintro h ⟨σ, w, ms, cs, kp, ho, hx⟩
  have st : ST σ h := ⟨w, ms, cs, kp, ho⟩
  have hP := PP_le w
  dsimp only
  cases hc : wn x 0 2 with
  | false => exact ⟨-1, h, h, by unfold fX_unseen; rw [isWithin_eq, cal_some, if_b0, hc]; rfl, by unfold fM_unseen; rw [in_eq, cal_some, if_b0, hc]; rfl, st.inv hx⟩
  | true =>
    have hc0 := hc
    obtain ⟨t, -, t2, rfl⟩ := (wn_nat (A := 0) (B := 2) (a := 0) (b := 2) rfl rfl (by omega) (by omega)).mp hc
    obtain ⟨h1, s1, s2, s3, sf, st1⟩ := both st hx 0
    -- the reference, wherever the class has gone
    have M : ∀ h2 : Hp, (∀ k, k ≠ 27 → h2 k = h1 k) → ∃ h4, InvX SF h4 ∧ fM_unseen h2 (nI t) = if nI t = 0 then some (nI (cntP (fun x => !(nx σ h1 x == 0)) (PP σ)), h4) else if nI t = 1 then some (nI (ua (cntP (fun x => nx σ h1 x == 1) (PP σ)) (cntP (fun x => nx σ h1 x == 2) (PP σ)) / Nat.gcd (ua (cntP (fun x => nx σ h1 x == 1) (PP σ)) (cntP (fun x => nx σ h1 x == 2) (PP σ))) (ub (cntP (fun x => nx σ h1 x == 2) (PP σ)))), h4) else some (nI (ub (cntP (fun x => nx σ h1 x == 2) (PP σ)) / Nat.gcd (ua (cntP (fun x => nx σ h1 x == 1) (PP σ)) (cntP (fun x => nx σ h1 x == 2) (PP σ))) (ub (cntP (fun x => nx σ h1 x == 2) (PP σ)))), h4) := fun h2 i2 => by
      have st2 := st1.fr27 i2
      have sf2 : SF σ h2 := SF_fr (fun k k1 k2 => i2 k (by omega)) sf
      obtain ⟨h3, L, m1, m2, fn, st3, m3, sf3⟩ := both2 st2 (by rw [i2 3 (by decide)]; exact s3) sf2 (-1)
      unfold fM_unseen
      rw [in_eq, cal_some, if_b0, hc0, cond_true, m1, cal_some]
      have l1 := cntP_le (fun x => nx σ h1 x == 1) (PP σ)
      have l2 := cntP_le (fun x => nx σ h1 x == 2) (PP σ)
      obtain ⟨h4, e4, f4⟩ := munseen_eq (hC := h2) (h := h3) (x1 := nI t) w st3.2.1 sf2 (fun x c hx hc => SU2 w sf2 fn hx hc) (fun x2_96 x3_96 x4_96 h96 => jn (τ := Int32 → Hp → RO) (fun s112 h112 => jn (τ := Int32 → Hp → RO) (fun s127 h127 => cal (fM_common h127 s112 s127) (fun r133 h133 => (if nI t = 0 then ret1 x2_96 h133 else (if nI t = 1 then dv s112 r133 (fun q155 => ret1 q155 h133) else dv s127 r133 (fun q163 => ret1 q163 h133))))) (fun j127 => (if x4_96 ≤ 0 then j127 2 h112 else j127 (2 * x4_96) h112))) (fun j112 => (if x4_96 ≤ 0 then j112 (x3_96 * (x3_96 - 1)) h96 else j112 (x3_96 * x3_96) h96)))
      rw [nx_fr (i2 12 (by decide))] at e4
      rw [e4]
      refine ⟨h4, (st3.fro f4).inv (Or.inr ⟨by rw [f4.1 3 (by decide) (by decide)]; exact m3, SF_fr (fun k k1 k2 => f4.1 k (by omega) (by omega)) sf3⟩), ?_⟩
      exact munseen_end (by omega) (by omega)
    by_cases t0 : t = 0
    · subst t0
      obtain ⟨h2, p1, p2⟩ := placesWith_eq (h := h1) (h0 := h1) 0 w st1.2.2.1 sf (fun _ _ => rfl) (by omega)
      obtain ⟨h4, iv, e⟩ := M h2 p2
      rw [if_pos (show nI 0 = 0 from rfl)] at e
      have cn := cntP_not (fun x => nx σ h1 x == 0) (PP σ)
      refine ⟨_, h2, h4, ?_, e, iv⟩
      unfold fX_unseen
      rw [isWithin_eq, cal_some, if_b0, hc0, cond_true, s1, cal_some, if_pos (show nI 0 = 0 from rfl), places_eq st1.2.2.1, cal_some]
      show cal (fU_placesWith h1 (nI 0)) _ = _
      rw [p1, cal_some]
      show some (nI (PP σ) - nI (cntP (fun x => nx σ h1 x == 0) (PP σ)), h2) = _
      rw [nI_subL (by omega), show PP σ - cntP (fun x => nx σ h1 x == 0) (PP σ) = cntP (fun x => !(nx σ h1 x == 0)) (PP σ) by omega]
    · obtain ⟨h2, p1, p2⟩ := placesWith_eq (h := h1) (h0 := h1) 1 w st1.2.2.1 sf (fun _ _ => rfl) (by omega)
      obtain ⟨h3, p3, p4⟩ := placesWith_eq (h := h2) (h0 := h1) 2 w st1.2.2.1 sf p2 (by omega)
      obtain ⟨h4, iv, e⟩ := M h3 p4
      have l1 := cntP_le (fun x => nx σ h1 x == 1) (PP σ)
      have l2 := cntP_le (fun x => nx σ h1 x == 2) (PP σ)
      have nt : ¬ nI t = 0 := fun z => t0 ((n_eq (Y := 0) (b := 0) rfl rfl (by omega) (by omega)).mp z)
      have ht : t = 1 ∨ t = 2 := by omega
      rw [if_neg nt] at e
      refine ⟨if t = 1 then nI (ua (cntP (fun x => nx σ h1 x == 1) (PP σ)) (cntP (fun x => nx σ h1 x == 2) (PP σ)) / Nat.gcd (ua (cntP (fun x => nx σ h1 x == 1) (PP σ)) (cntP (fun x => nx σ h1 x == 2) (PP σ))) (ub (cntP (fun x => nx σ h1 x == 2) (PP σ)))) else nI (ub (cntP (fun x => nx σ h1 x == 2) (PP σ)) / Nat.gcd (ua (cntP (fun x => nx σ h1 x == 1) (PP σ)) (cntP (fun x => nx σ h1 x == 2) (PP σ))) (ub (cntP (fun x => nx σ h1 x == 2) (PP σ)))), h3, h4, ?_, ?_, iv⟩
      · unfold fX_unseen
        rw [isWithin_eq, cal_some, if_b0, hc0, cond_true, s1, cal_some, if_neg nt]
        show cal (fU_placesWith h1 (nI 1)) _ = _
        rw [p1, cal_some]
        show cal (fU_placesWith h2 (nI 2)) _ = _
        rw [p3, cal_some]
        exact unseen_end (by omega) (by omega) ht
      · rw [e]
        rcases ht with z | z
        · rw [z, if_pos (show nI 1 = 1 from rfl), if_pos rfl]
        · rw [z, if_neg (show ¬ nI 2 = 1 by decide), if_neg (by decide)]
theorem copies_eq (w : WF σ) (cs : CS σ h) : fU_copies h = some (nI (cntP (fun c => !decide (h 12 c = -1)) (σ 0 3)), h) := by
  have c30 := w.nc_le
  unfold fU_copies
  refine loopS (fun n (a : Int32 × Int32 × Hp) => fU_copies_L4 n a.1 a.2.1 a.2.2) (fun c => (nI (cntP (fun c => !decide (h 12 c = -1)) c), nI c, h)) _ (σ 0 3) (by omega) ?_ ?_ 0 (by omega)
  · intro c n hc
    show fU_copies_L4 (n + 1) (nI (cntP (fun c => !decide (h 12 c = -1)) c)) (nI c) h = fU_copies_L4 n (nI (cntP (fun c => !decide (h 12 c = -1)) (c + 1))) (nI (c + 1)) h
    rw [fU_copies_L4, cs.1 3 (by decide), if_neg (fun z => by have := (nI_leI (by omega) (by omega)).mp z; omega), rd_at c 30 rfl rfl (by omega), jn_eq, n_s1, n_s1]
    by_cases q : h 12 c = -1
    · rw [if_pos q, cntP_f (f := fun c => !decide (h 12 c = -1)) (show (!decide (h 12 c = -1)) = false by rw [decide_eq_true q]; rfl)]
    · rw [if_neg q, cntP_t (f := fun c => !decide (h 12 c = -1)) (show (!decide (h 12 c = -1)) = true by rw [decide_eq_false q]; rfl)]
  · intro n
    show fU_copies_L4 (n + 1) (nI (cntP (fun c => !decide (h 12 c = -1)) (σ 0 3))) (nI (σ 0 3)) h = _
    rw [fU_copies_L4, cs.1 3 (by decide), if_pos (Int32.le_refl _)]
    rfl
theorem msure_eq {M : Nat → Nat} {P : Nat → Bool} (w : WF σ) (ms : MS σ h) (hM : ∀ c, c < σ 0 3 → h 52 c = nI (M c) ∧ M c < 512 ∧ (pop (M c) 9 = 1 ↔ P c = true)) : fM_sure_L9 FU 0 0 h = some (nI (cntP P (σ 0 3)), h) := by
  have c30 := w.nc_le
  refine loopS (fun n (a : Int32 × Int32 × Hp) => fM_sure_L9 n a.1 a.2.1 a.2.2) (fun c => (nI (cntP P c), nI c, h)) _ (σ 0 3) (by omega) ?_ ?_ 0 (by omega)
  · intro c n hc
    show fM_sure_L9 (n + 1) (nI (cntP P c)) (nI c) h = fM_sure_L9 n (nI (cntP P (c + 1))) (nI (c + 1)) h
    obtain ⟨a1, a2, a3⟩ := hM c hc
    have pl := pop_le (M c) 9
    rw [fM_sure_L9, ms.nc, if_neg (fun z => by have := (nI_leI (by omega) (by omega)).mp z; omega), rd_at c 30 rfl rfl (by omega), a1, manyOf_eq a2, cal_some]
    simp only [jn_eq, bnd_eq]
    rw [n_s1, n_s1, nI_z]
    by_cases q : pop (M c) 9 = 1
    · rw [if_pos (by rw [q]; rfl), cntP_t (a3.mp q)]
    · rw [if_neg (fun z => q ((n_eq (Y := 1) (b := 1) rfl rfl (by omega) (by omega)).mp z)), cntP_f (show P c = false by
        cases z : P c with
        | false => rfl
        | true => exact absurd (a3.mpr z) q)]
  · intro n
    show fM_sure_L9 (n + 1) (nI (cntP P (σ 0 3))) (nI (σ 0 3)) h = _
    rw [fM_sure_L9, ms.nc, if_pos (Int32.le_refl _)]
    rfl
theorem spI_no {m : Nat} (hm : m < 512) : pop m 9 = 1 ↔ (!decide (spI m = -1)) = true := by
  unfold spI
  by_cases q : pop m 9 = 1
  · rw [if_pos q]
    have := (pop_one m hm q).2
    have e : ¬ nI (Nat.log2 m) = -1 := fun z => by
      have := nI_pos' (n := Nat.log2 m) (by omega)
      rw [z] at this
      exact absurd this (by decide)
    rw [decide_eq_false e]
    exact ⟨fun _ => rfl, fun _ => q⟩
  · rw [if_neg q, decide_eq_true rfl]
    exact ⟨fun z => absurd z q, fun z => absurd z (by decide)⟩
theorem ag_many (x : Int32) : Agr (InvX SF) (fun h => fX_many h x) (fun h => fM_many h x) := by
  rintro h ⟨σ, w, ms, cs, kp, ho, hx⟩
  have st : ST σ h := ⟨w, ms, cs, kp, ho⟩
  have inv := st.inv hx
  dsimp only
  unfold fX_many fM_many
  cases hc : wn x 0 6 with
  | false =>
    have no : ∀ j, j < 7 → x ≠ nI (0 + j) := fun j hj e => by
      rw [(wn_nat (A := 0) (B := 6) (a := 0) (b := 6) rfl rfl (by omega) (by omega)).mpr ⟨j, by omega, by omega, by rw [e, Nat.zero_add]⟩] at hc
      exact absurd hc (by decide)
    have e1 : ∀ (l : List RO) (d : RO), l.length = 7 → swf x 0 l d = d := fun l d hl => swf_out (fun j hj q => no j (by rw [hl] at hj; exact hj) q)
    exact ⟨-1, h, h, by rw [e1 _ _ rfl]; rfl, by rw [e1 _ _ rfl]; rfl, inv⟩
  | true =>
    obtain ⟨t, -, t2, rfl⟩ := (wn_nat (A := 0) (B := 6) (a := 0) (b := 6) rfl rfl (by omega) (by omega)).mp hc
    rcases (show t = 0 ∨ t = 1 ∨ t = 2 ∨ t = 3 ∨ t = 4 ∨ t = 5 ∨ t = 6 by omega) with rfl | rfl | rfl | rfl | rfl | rfl | rfl
    · exact ⟨nI (σ 0 0 * σ 0 1), h, h, by rw [swf_at (i := 0) (j := 0) (by decide) rfl, places_eq cs]; rfl, by rw [swf_at (i := 0) (j := 0) (by decide) rfl, mplaces_eq ms]; rfl, inv⟩
    · exact ⟨nI (σ 0 2), h, h, by rw [swf_at (i := 0) (j := 1) (by decide) rfl, cs.1 2 (by decide)]; rfl, by rw [swf_at (i := 0) (j := 1) (by decide) rfl, ms.np]; rfl, inv⟩
    · exact ⟨nI (σ 0 3), h, h, by rw [swf_at (i := 0) (j := 2) (by decide) rfl, cs.1 3 (by decide)]; rfl, by rw [swf_at (i := 0) (j := 2) (by decide) rfl, ms.nc]; rfl, inv⟩
    · exact ⟨nI (σ 0 4), h, h, by rw [swf_at (i := 0) (j := 3) (by decide) rfl, cs.1 4 (by decide)]; rfl, by rw [swf_at (i := 0) (j := 3) (by decide) rfl, ms.nb]; rfl, inv⟩
    · exact ⟨nI (cntP (fgP σ) (σ 0 2)), h, h, by rw [swf_at (i := 0) (j := 4) (by decide) rfl, forgedN_eq w cs]; rfl, by rw [swf_at (i := 0) (j := 4) (by decide) rfl, mforgedN_eq w ms]; rfl, inv⟩
    · exact ⟨nI (cntP (tk σ) (σ 0 2)), h, h, by rw [swf_at (i := 0) (j := 5) (by decide) rfl, takingN_eq w cs]; rfl, by rw [swf_at (i := 0) (j := 5) (by decide) rfl, mtakingN_eq w ms]; rfl, inv⟩
    · obtain ⟨h1, s1, s2, s3, sf, st1⟩ := both st hx 0
      obtain ⟨h2, L, m1, m2, fn, st2, m3, sf2⟩ := both2 st1 s3 sf (-1)
      obtain ⟨-, -, b, b1, b2, b3, b4⟩ := SF_FN w sf fn
      refine ⟨nI (cntP (fun c => !decide (h1 12 c = -1)) (σ 0 3)), h1, h2, ?_, ?_, st2.inv (Or.inr ⟨m3, sf2⟩)⟩
      · rw [swf_at (i := 0) (j := 6) (by decide) rfl, s1, cal_some, copies_eq w st1.2.2.1, cal_some]
        rfl
      · rw [swf_at (i := 0) (j := 6) (by decide) rfl]
        unfold fM_sure
        rw [m1, cal_some, msure_eq (M := fun c => b (σ 6 c) * 2 ^ ofs σ c) (P := fun c => !decide (h1 12 c = -1)) w st2.2.1 (fun c hc => ⟨(b4 c hc).2, shift_lt w b2 hc, by rw [(b4 c hc).1]; exact spI_no (shift_lt w b2 hc)⟩), cal_some]
        rfl
end LastOps
