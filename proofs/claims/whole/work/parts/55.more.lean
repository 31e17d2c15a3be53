/-! ROWS of Ev, fourth part: an array's length, arraycopy, as functions -/
section EvMore
variable {M : MI} {d pc : Nat} {L L' : List (Nat × AV)} {S S0 : List AV} {h : Hp} {post : Int32 → Hp → Prop}
theorem ev_aln {k : Nat} {f : Int32 → RO} (hd : decode M.2.1 pc = .ok (.arraylength, 1)) (hs : Sat post (aln k f)) (kk : ∀ z, Sat post (f z) → Ev M d (pc + 1) L (.inl z :: S) h post) : Ev M d pc L (.inr k :: S) h post := by
  unfold aln at hs
  split at hs
  · rename_i a ha
    exact ev_alen (z := a.1) (n := a.2) hd ha (kk _ hs)
  · exact absurd hs id
theorem ev_cpy {i a b : Nat} {s t v : Int32} {f : Hp → RO} (hd : decode M.2.1 pc = .ok (.invokestatic i, 3)) (h1 : Cond.methodLink M.1.cls i arraycopyName ∈ tbl) (h2 : Cond.native arraycopyName ∈ tbl) (h3 : Cond.static arraycopyName ∈ tbl) (h4 : Cond.initialized "java/lang/System" ∈ tbl) (hd1 : 1 ≤ d) (hw : nativeFrameWords "java/lang/System" "arraycopy" 5 ≤ 20) (hs : Sat post (cpy h a b s t v f)) (kk : ∀ u, Sat post (f u) → Ev M d (pc + 3) L [] u post) : Ev M d pc L [.inl v, .inl t, .inr b, .inl s, .inr a] h post := by
  unfold cpy at hs
  split at hs
  · rename_i x y hx hy
    split at hs
    · rename_i hc
      obtain ⟨c1, c2, c3, c4, rfl, rfl, c5⟩ := hc
      exact ev_acopy (n := x.2) hd h1 h2 h3 h4 (by rw [hx, ← c1]) (by rw [hy, c3, ← c2]) c5 c4 hd1 rfl hw (kk _ hs)
    · exact absurd hs id
  · exact absurd hs id
end EvMore
section EvMath
variable {M : MI} {d pc : Nat} {L L' : List (Nat × AV)} {S S0 : List AV} {h : Hp} {post : Int32 → Hp → Prop}
theorem m_minC : Cond.code Lib.Math.min.name Lib.Math.min.code 2 (some .int) ∈ tbl := tbl_in (by decide +kernel) rfl
theorem m_maxC : Cond.code Lib.Math.max.name Lib.Math.max.code 2 (some .int) ∈ tbl := tbl_in (by decide +kernel) rfl
theorem m_minS : Cond.static Lib.Math.min.name ∈ tbl := tbl_in (by decide +kernel) rfl
theorem m_maxS : Cond.static Lib.Math.max.name ∈ tbl := tbl_in (by decide +kernel) rfl
theorem m_mathI : Cond.initialized "java/lang/Math" ∈ tbl := tbl_in (by decide +kernel) rfl
theorem ev_mmin {i : Nat} {x y : Int32} (hd : decode M.2.1 pc = .ok (.invokestatic i, 3)) (hw : Cond.methodLink M.1.cls i Lib.Math.min.name ∈ tbl) (hr : S.length ≤ 8) (hd1 : 1 ≤ d) (k : Ev M d (pc + 3) L (.inl (mnI x y) :: S) h post) : Ev M d pc L (.inl y :: .inl x :: S) h post := by
  intro p l e s m args below meth c H locs ls g C hP hK hD hS hl
  have hts := C.2.2.2.2.2.1
  refine va_mmin C.1 C.2.1 (by rw [C.2.2.2.1, hl.1]) C.2.2.2.2.1 (hts _ hw) (hts _ m_minS) (hts _ m_mathI) (hts _ m_minC) hd1 ?_ (Nat.le_refl 0) (Nat.le_refl 0) hd (k p l e s m args below meth c H locs ls g C hP hK hD hS hl)
  rw [cat_sum]
  show S.length + 13 ≤ 40 * d
  omega
theorem ev_mmax {i : Nat} {x y : Int32} (hd : decode M.2.1 pc = .ok (.invokestatic i, 3)) (hw : Cond.methodLink M.1.cls i Lib.Math.max.name ∈ tbl) (hr : S.length ≤ 8) (hd1 : 1 ≤ d) (k : Ev M d (pc + 3) L (.inl (mxI x y) :: S) h post) : Ev M d pc L (.inl y :: .inl x :: S) h post := by
  intro p l e s m args below meth c H locs ls g C hP hK hD hS hl
  have hts := C.2.2.2.2.2.1
  refine va_mmax C.1 C.2.1 (by rw [C.2.2.2.1, hl.1]) C.2.2.2.2.1 (hts _ hw) (hts _ m_maxS) (hts _ m_mathI) (hts _ m_maxC) hd1 ?_ (Nat.le_refl 0) (Nat.le_refl 0) hd (k p l e s m args below meth c H locs ls g C hP hK hD hS hl)
  rw [cat_sum]
  show S.length + 13 ≤ 40 * d
  omega
end EvMath
