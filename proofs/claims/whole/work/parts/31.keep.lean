/-! THE REFERENCE KEEPS A LAYING -/
section Kl
variable {σ : Sg} {h : Hp}
theorem PA.w28 {j : Nat} {v : Int32} (pa : PA σ h) (hj : j ≠ 25) : PA σ (up h 28 j v) := ⟨by rw [up_k, upd_ne (fun q => hj q.symm)]; exact pa.1, fun i hi => by rw [up_ne h (by decide)]; exact pa.2 i hi⟩
theorem PQ.w {k j : Nat} {v : Int32} (pq : PQ σ h) (hk : k ≠ 50) : PQ σ (up h k j v) := fun i j h1 h2 h3 s t h4 h5 => by rw [up_ne h (fun q => hk q.symm)]; exact pq i j h1 h2 h3 s t h4 h5
theorem PM.w2 {k j : Nat} {v : Int32} (pm : PM σ h) (hk : k ≠ 49) : PM σ (up h k j v) := fun i hi s hs => by rw [up_ne h (fun q => hk q.symm)]; exact pm i hi s hs
theorem FS.w {h0 : Hp} {k j : Nat} {v : Int32} (fs : FS σ h0 h) (hk : 51 ≤ k) : FS σ h0 (up h k j v) := ⟨fs.1.w48 _ _ (by omega), fs.2.1.w (by omega), fs.2.2.1.w (by omega), fs.2.2.2.w (by omega)⟩
theorem FS.w28 {h0 : Hp} {j : Nat} {v : Int32} (fs : FS σ h0 h) (hj : 26 ≤ j) : FS σ h0 (up h 28 j v) := ⟨fs.1.w28 _ (by omega), fs.2.1.w28 (by omega), fs.2.2.1.w2 (by decide), fs.2.2.2.w (by decide)⟩
/-- the copies of one piece are marked where they lie -/
theorem kl62 {K : Hp → RO} {Q : RO → Prop} {h0 : Hp} {p s r : Nat} {x2 : Int32} {B : Nat → Nat} (w : WF σ) (ms : MS σ h0) (hp : tkp σ p = true) (hrk : rk σ p = r) (fs : FS σ h0 h) (hs : h 51 r = nI s) (hs2 : s < PP σ) (hB : ∀ c, c < 30 → h 52 c = nI (B c)) (hK : ∀ h', FS σ h0 h' → (∀ k, k ≠ 52 → h' k = h k) → (∀ c, c < 30 → h' 52 c = nI (if σ 4 p ≤ c ∧ c < σ 4 p + sz σ p then B c ||| 2 ^ (s + ofs σ c) else B c)) → Q (K h')) : Q (fM_keepLaying_L62 K x2 (nI r) FU (nI (σ 4 p)) h) := by
  subst hrk
  have hP := PP_le w
  have hm := mm_le (σ := σ)
  have hr := rk_lt w hp
  have hpn := (tkp_lt hp).1
  have hsz := w.sz_le hpn
  have hend := w.end_le hpn
  have hnc := w.nc_le
  have hnp := w.1.2.2.2.2.2.1
  refine loopK (fun n (a : Int32 × Hp) => fM_keepLaying_L62 K x2 (nI (rk σ p)) n a.1 a.2) (fun i a => a.1 = nI (σ 4 p + i) ∧ FS σ h0 a.2 ∧ (∀ k, k ≠ 52 → a.2 k = h k) ∧ ∀ c, c < 30 → a.2 52 c = nI (if σ 4 p ≤ c ∧ c < σ 4 p + i then B c ||| 2 ^ (s + ofs σ c) else B c)) Q (sz σ p) (by omega) ?_ ?_ 0 (nI (σ 4 p), h) (by omega) ⟨rfl, fs, fun _ _ => rfl, fun c hc => by rw [if_neg (by omega)]; exact hB c hc⟩
  · rintro i ⟨x, h'⟩ n hi ⟨e1, fs', e2, e3⟩ hn
    dsimp only at e1 fs' e2 e3
    subst e1
    have ms' := fs'.1.ms ms
    have hq : σ 4 p + i < σ 0 3 := by omega
    have o := ofs_le w hq
    show Q (fM_keepLaying_L62 K x2 (nI (rk σ p)) (n + 1) (nI (σ 4 p + i)) h')
    simp only [fM_keepLaying_L62]
    rw [rd_at (rk σ p) 5 rfl rfl (by omega), fs'.2.1.2 p hp, rd_at p 5 rfl rfl (by omega), ms'.a4 (by omega), rd_at (rk σ p) 5 rfl rfl (by omega), fs'.2.1.2 p hp, sizeOf_eq ms' (by omega), cal_some, nI_add, if_neg (fun q => by have := (n_le rfl rfl (by omega) (by omega)).mp q; omega), rd_at (σ 4 p + i) 30 rfl rfl (by omega), rd_at (rk σ p) 5 rfl rfl (by omega), e2 51 (by decide), hs, spot_eq w ms' hq, cal_some, wr_at (σ 4 p + i) 30 rfl rfl (by omega), n_s1, e3 _ (by omega), if_neg (by omega), n_one_shl (by omega), n_or]
    refine hn (nI (σ 4 p + i + 1), up h' 52 (σ 4 p + i) (nI (B (σ 4 p + i) ||| 2 ^ (s + ofs σ (σ 4 p + i))))) ?_
    dsimp only
    refine ⟨rfl, fs'.w (by decide), fun k hk => by rw [up_ne h' hk]; exact e2 k hk, fun c hc => ?_⟩
    rw [up_k]
    by_cases e : c = σ 4 p + i
    · rw [e, upd_same, if_pos (by omega)]
    · rw [upd_ne e, e3 c hc]
      by_cases c1 : σ 4 p ≤ c ∧ c < σ 4 p + i
      · rw [if_pos c1, if_pos (by omega)]
      · rw [if_neg c1, if_neg (by omega)]
  · rintro ⟨x, h'⟩ n ⟨e1, fs', e2, e3⟩
    dsimp only at e1 fs' e2 e3
    subst e1
    have ms' := fs'.1.ms ms
    show Q (fM_keepLaying_L62 K x2 (nI (rk σ p)) (n + 1) (nI (σ 4 p + sz σ p)) h')
    simp only [fM_keepLaying_L62]
    rw [rd_at (rk σ p) 5 rfl rfl (by omega), fs'.2.1.2 p hp, rd_at p 5 rfl rfl (by omega), ms'.a4 (by omega), rd_at (rk σ p) 5 rfl rfl (by omega), fs'.2.1.2 p hp, sizeOf_eq ms' (by omega), cal_some, nI_add, if_pos (Int32.le_refl _)]
    exact hK h' fs' e2 e3
theorem kl41 {K : Hp → RO} {Q : RO → Prop} {h0 : Hp} {d v : Nat → Nat} {x2 : Int32} {N : Int32} {B : Nat → Nat} (w : WF σ) (ms : MS σ h0) (fs : FS σ h0 h) (hd : ∀ x, x < mm σ → h 51 x = nI (d x) ∧ d x < PP σ) (hv : ∀ i, tkp σ i = true → v i = d (rk σ i)) (hN : h 28 31 = N) (hB : ∀ c, c < 30 → h 52 c = nI (B c)) (hK : ∀ h', FS σ h0 h' → (∀ k, k ≠ 52 → k ≠ 53 → h' k = h k) → (∀ c, c < 30 → h' 52 c = nI (if c < σ 0 3 ∧ tkp σ (σ 6 c) = true then B c ||| 2 ^ (v (σ 6 c) + ofs σ c) else B c)) → (∀ x, x < mm σ → h' 53 x = if N = x2 then nI (d x) else h 53 x) → Q (K h')) : Q (fM_keepLaying_L41 K x2 FU 0 h) := by
  have hP := PP_le w
  have hm := mm_le (σ := σ)
  have hnc := w.nc_le
  have hnp := w.1.2.2.2.2.2.1
  refine loopK (fun n (a : Int32 × Hp) => fM_keepLaying_L41 K x2 n a.1 a.2) (fun r a => a.1 = nI r ∧ FS σ h0 a.2 ∧ (∀ k, k ≠ 52 → k ≠ 53 → a.2 k = h k) ∧ (∀ c, c < 30 → a.2 52 c = nI (if c < σ 0 3 ∧ tkp σ (σ 6 c) = true ∧ rk σ (σ 6 c) < r then B c ||| 2 ^ (v (σ 6 c) + ofs σ c) else B c)) ∧ (∀ x, x < mm σ → a.2 53 x = if x < r ∧ N = x2 then nI (d x) else h 53 x)) Q (mm σ) (by omega) ?_ ?_ 0 (0, h) (by omega) ⟨rfl, fs, fun _ _ _ => rfl, fun c hc => by rw [if_neg (by omega)]; exact hB c hc, fun x hx => by rw [if_neg (by omega)]⟩
  · rintro r ⟨x, h'⟩ n hr ⟨e1, fs', e2, e3, e4⟩ hn
    dsimp only at e1 fs' e2 e3 e4
    subst e1
    have ms' := fs'.1.ms ms
    obtain ⟨t1, t2⟩ := ti_lt w hr
    obtain ⟨d1, d2⟩ := hd r hr
    have hpn := (tkp_lt t1).1
    have hend := w.end_le hpn
    have hpa := fs'.2.1.2 _ t1
    rw [t2] at hpa
    show Q (fM_keepLaying_L41 K x2 (n + 1) (nI r) h')
    simp only [fM_keepLaying_L41, jn]
    rw [if_neg (fun q => by rw [fs'.2.1.1] at q; have := (n_le rfl rfl (by omega) (by omega)).mp q; omega), rd_at r 5 rfl rfl (by omega), hpa, rd_at (ti σ r) 5 rfl rfl (by omega), ms'.a4 (by omega)]
    refine kl62 (Q := Q) w ms t1 t2 fs' (s := d r) (by rw [e2 51 (by decide) (by decide)]; exact d1) d2 e3 (fun h2 fs2 c1 c2 => ?_)
    have hd53 : ∀ V : Int32, Q (wr h2 53 (nI r) V (fun h147 => fM_keepLaying_L41 K x2 n (nI r + 1) h147)) ↔ Q (fM_keepLaying_L41 K x2 n (nI (r + 1)) (up h2 53 r V)) := fun V => by rw [wr_at r 5 rfl rfl (by omega), n_s1]
    have fin : ∀ V : Int32, V = (if N = x2 then nI (d r) else h 53 r) → Q (wr h2 53 (nI r) V (fun h147 => fM_keepLaying_L41 K x2 n (nI r + 1) h147)) := by
      intro V hV
      rw [hd53]
      refine hn (nI (r + 1), up h2 53 r V) ?_
      dsimp only
      refine ⟨rfl, fs2.w (by decide), fun k k1 k2 => by rw [up_ne h2 k2, c1 k k1]; exact e2 k k1 k2, fun c hc => ?_, fun x hx => ?_⟩
      · rw [up_ne h2 (by decide), c2 c hc]
        congr 1
        by_cases q1 : σ 4 (ti σ r) ≤ c ∧ c < σ 4 (ti σ r) + sz σ (ti σ r)
        · have e6 := w.2.2.2.1 _ c hpn q1.1 q1.2
          rw [if_pos q1, e6, if_neg (by rw [t2]; omega), if_pos ⟨by omega, t1, by rw [t2]; omega⟩, hv _ t1, t2]
        · rw [if_neg q1]
          by_cases q2 : c < σ 0 3 ∧ tkp σ (σ 6 c) = true ∧ rk σ (σ 6 c) < r
          · rw [if_pos q2, if_pos ⟨q2.1, q2.2.1, by omega⟩]
          · rw [if_neg q2, if_neg]
            intro q
            apply q2
            refine ⟨q.1, q.2.1, ?_⟩
            rcases (show rk σ (σ 6 c) < r ∨ rk σ (σ 6 c) = r by omega) with z | z
            · exact z
            · exfalso
              have : σ 6 c = ti σ r := cntP_inj q.2.1 t1 (z.trans t2.symm)
              have po := w.po q.1
              rw [this] at po
              exact q1 po.2
      · rw [up_k]
        by_cases q : x = r
        · rw [q, upd_same, hV]
          by_cases z : N = x2
          · rw [if_pos z, if_pos ⟨by omega, z⟩]
          · rw [if_neg z, if_neg (fun y => z y.2)]
        · rw [upd_ne q, c1 53 (by decide), e4 x hx]
          by_cases z : x < r ∧ N = x2
          · rw [if_pos z, if_pos ⟨by omega, z.2⟩]
          · rw [if_neg z, if_neg (fun y => z ⟨by omega, y.2⟩)]
    rw [c1 28 (by decide), e2 28 (by decide) (by decide), hN]
    by_cases z : N = x2
    · rw [if_pos z, rd_at r 5 rfl rfl (by omega), c1 51 (by decide), e2 51 (by decide) (by decide), d1]
      exact fin _ (by rw [if_pos z])
    · rw [if_neg z, rd_at r 5 rfl rfl (by omega), c1 53 (by decide), e4 r hr, if_neg (by omega)]
      exact fin _ (by rw [if_neg z])
  · rintro ⟨x, h'⟩ n ⟨e1, fs', e2, e3, e4⟩
    dsimp only at e1 fs' e2 e3 e4
    subst e1
    show Q (fM_keepLaying_L41 K x2 (n + 1) (nI (mm σ)) h')
    simp only [fM_keepLaying_L41]
    rw [if_pos (by rw [fs'.2.1.1]; exact Int32.le_refl _)]
    refine hK h' fs' e2 (fun c hc => ?_) (fun x hx => ?_)
    · rw [e3 c hc]
      congr 1
      by_cases q : c < σ 0 3 ∧ tkp σ (σ 6 c) = true
      · rw [if_pos q, if_pos ⟨q.1, q.2, rk_lt w q.2⟩]
      · rw [if_neg q, if_neg (fun y => q ⟨y.1, y.2.1⟩)]
    · rw [e4 x hx]
      by_cases z : N = x2
      · rw [if_pos z, if_pos ⟨hx, z⟩]
      · rw [if_neg z, if_neg (fun y => z y.2)]
end Kl
