/-! ROWS of Ev, third part: calls, switches, arraycopy -/
section EvCalls
variable {M : MI} {d pc : Nat} {L L' : List (Nat × AV)} {S S0 : List AV} {h : Hp} {post : Int32 → Hp → Prop}
/-- the words of a method's own: it is there with this code, its class stands ready, it takes n arguments -/
def ZW (Z : MI) (n : Nat) : Prop := Cond.code Z.1 Z.2.1 Z.2.2.1 Z.2.2.2 ∈ tbl ∧ Cond.initialized Z.1.cls ∈ tbl ∧ (Z.1.cls ≠ "java/lang/invoke/MethodHandle" ∧ Z.1.cls ≠ "java/lang/invoke/VarHandle" ∧ (parseMethodDescriptor Z.1.desc).map (fun q => q.parameters.length) = some n) ∧ Z.2.2.1 ≤ 21
def CVw (own : String) (i : Nat) (Z : MI) : Prop := Cond.methodLink own i Z.1 ∈ lw_tbl ∧ Cond.instanceMethod Z.1 ∈ lw_tbl ∧ Cond.selects Z.1.cls Z.1 Z.1 ∈ lw_tbl
def CSw (own : String) (i : Nat) (Z : MI) : Prop := Cond.methodLink own i Z.1 ∈ lw_tbl ∧ Cond.static Z.1 ∈ lw_tbl
def CNw (own : String) (i : Nat) (Z : MI) : Prop := Cond.methodLinkNest own i Z.1 RXx ∈ nestL ∧ Cond.static Z.1 ∈ lw_tbl
theorem blind (As : List AV) (h : Hp) (g : GG) : FrameBlind (va_Pc (As.map (cv g)) (fun U => Bw g h U ∧ NN U)) := fun a U g2 mk q => ⟨q.1, ⟨q.2.1.1, va_K.moved (u := U) (U := U.calling g2 mk a) (Vm.Alike.refl U.vm) q.2.1.2.1, q.2.1.2.2⟩, NN.same (u := U) (U := U.calling g2 mk a) rfl q.2.2⟩
theorem good_ws {Z : MI} {n : Nat} (hz : ZW Z n) : GoodIn tbl (wsM Z) := fun w hw => by
  rcases List.mem_cons.mp hw with h1 | h1
  · rw [h1]; exact ⟨hz.1, Or.inl rfl⟩
  · exact tbl_good w h1
theorem cat_sum (g : GG) (S : List AV) : ((S.map (cv g)).map fun v => v.category).sum = S.length := by
  induction S with
  | nil => rfl
  | cons a S ih => simp only [List.map_cons, List.sum_cons, ih, cv_cat, List.length_cons]; omega
theorem room_d {Z : MI} {n d2 : Nat} (hz : ZW Z n) (hd : d2 + 1 ≤ d) : (rmd d2).frames + 1 ≤ (rmd d).frames ∧ 8 + (Z.2.2.1 + 11) + (rmd d2).locals ≤ (rmd d).locals := by
  have h1 := hz.2.2.2
  refine ⟨hd, ?_⟩
  show 8 + (Z.2.2.1 + 11) + 40 * d2 ≤ 40 * d
  omega
section One
variable {i n d2 k ci : Nat} {Z : MI} {As : List AV} {q : vw_C} {fs : List (Option Nat)} {o : RO} {f : Int32 → Hp → RO}
theorem run_V {p : Program} {l : Launch} {e : Env} {s : State} {m : MethodId} {args : Array Value} {below : List Frame} {meth : Method} {c : Code} {H : Heap} {locs : List Loc} {ls : Array Slot} {g : GG} {p1 : Int32 → Hp → Prop}
    (hd : decode M.2.1 pc = .ok (.invokevirtual i, 3)) (hc : CVw M.1.cls i Z) (hz : ZW Z n) (hn : As.length = n) (hk : lay[k]? = some (.inr (ci, fs))) (hq : cls[ci]? = some q) (hqz : q.1 = Z.1.cls) (hr : S.length ≤ 8) (hdz : d2 + 1 ≤ d) (hm : Mt Z d2 (.inr k :: As) h p1)
    (C : Cx M p s m args meth c) (hP : va_P g.2.1 cls (wd g h) H) (hK : va_K g.2.1 cls (tyG g) s) (hD : va_D (gA g) (wd g h)) (hl : lv_has ls M.2.2.1 (cvL g L)) :
    va_Run p l e (rmd d) s m args below meth c H locs 0 0 0 0 (F0 m pc ls ((As.reverse ++ .inr k :: S).map (cv g))) (S.map (cv g)) (QQ Z.2.2.2 p1 g ((.inr k :: As).map (cv g)).toArray) (gA g) := by
  have hts := C.2.2.2.2.2.1
  refine va_runV (As := As.map (cv g)) (C := Z.1.cls) (index := i) (bytes := Z.2.1) (maxL := Z.2.2.1) (ret := Z.2.2.2) (n := n) (own := M.1.cls) ⟨C.1, C.2.1, C.2.2.2.1, C.2.2.2.2.1, hts⟩ (hm l g) (cwV n hts (fun w hw => ?_) rfl rfl rfl ⟨rfl, hz.2.2.1⟩ (room_d hz hdz)) ⟨blind _ h g, ?_, fun U hU hW => ⟨rfl, ⟨by rw [hU]; exact hP, va_K.moved hW.alike hK, hD⟩, NN.warm hW C.2.2.2.2.2.2.2⟩⟩ rfl (by simpa using hn) hl.1 ?_ ?_ hd ⟨Nat.le_refl 0, Nat.le_refl 0⟩
  · unfold wsV at hw
    rcases List.mem_append.mp hw with h1 | h1
    · simp only [List.mem_cons, List.not_mem_nil, or_false] at h1
      rcases h1 with rfl | rfl | rfl | rfl
      · exact ⟨tbl_in hc.1 rfl, Or.inl rfl⟩
      · exact ⟨tbl_in hc.2.1 rfl, Or.inl rfl⟩
      · exact ⟨tbl_in hc.2.2 rfl, Or.inl rfl⟩
      · exact ⟨hz.2.1, Or.inl rfl⟩
    · exact good_ws hz w h1
  · rw [← hqz]
    exact va_recv hK hP hq (wd_at g h hk)
  · simp [cv]
  · exact lv_room (by rw [cat_sum]; exact hr)
theorem ev_callV {ty : FieldType} (hd : decode M.2.1 pc = .ok (.invokevirtual i, 3)) (hc : CVw M.1.cls i Z) (hz : ZW Z n) (hn : As.length = n) (hk : lay[k]? = some (.inr (ci, fs))) (hq : cls[ci]? = some q) (hqz : q.1 = Z.1.cls) (hr : S.length ≤ 8) (hdz : d2 + 1 ≤ d) (hS0 : As.reverse ++ .inr k :: S = S0) (hret : Z.2.2.2 = some ty) (hm : ∀ p1, Sat p1 o → Mt Z d2 (.inr k :: As) h p1) (hs : Sat post (cal o f)) (kk : ∀ r u, Sat post (f r u) → Ev M d (pc + 3) L (.inl r :: S) u post) : Ev M d pc L S0 h post := by
  intro p l e s m args below meth c H locs ls g C hP hK hD hS hl
  subst hS0
  have hrun := run_V (l := l) (e := e) (below := below) (locs := locs) (S := S) hd hc hz hn hk hq hqz hr hdz (hm _ (sat_cal hs)) C hP hK hD hl
  rw [hret] at hrun
  refine va_calli (a := #[]) hrun hS (fun _ _ h => h) (fun _ h => h) (fun r u t H1 locs1 ht hvm hw hB hz1 hk1 hS1 => ?_)
  exact kk r u hw p l e s m args below meth c H1 locs1 ls g C (by rw [← ht]; exact hB.1) hK hB.2.2 hS1 hl
theorem ev_callVv (hd : decode M.2.1 pc = .ok (.invokevirtual i, 3)) (hc : CVw M.1.cls i Z) (hz : ZW Z n) (hn : As.length = n) (hk : lay[k]? = some (.inr (ci, fs))) (hq : cls[ci]? = some q) (hqz : q.1 = Z.1.cls) (hr : S.length ≤ 8) (hdz : d2 + 1 ≤ d) (hS0 : As.reverse ++ .inr k :: S = S0) (hret : Z.2.2.2 = none) (hm : ∀ p1, Sat p1 o → Mt Z d2 (.inr k :: As) h p1) (hs : Sat post (cal o f)) (kk : ∀ r u, Sat post (f r u) → Ev M d (pc + 3) L S u post) : Ev M d pc L S0 h post := by
  intro p l e s m args below meth c H locs ls g C hP hK hD hS hl
  subst hS0
  have hrun := run_V (l := l) (e := e) (below := below) (locs := locs) (S := S) hd hc hz hn hk hq hqz hr hdz (hm _ (sat_cal hs)) C hP hK hD hl
  rw [hret] at hrun
  refine va_callv (a := #[]) hrun hS (fun _ _ h => h) (fun _ h => h) (fun u t H1 locs1 ht hvm hw hB hz1 hk1 hS1 => ?_)
  exact kk 0 u hw p l e s m args below meth c H1 locs1 ls g C (by rw [← ht]; exact hB.1) hK hB.2.2 hS1 hl
theorem run_S {p : Program} {l : Launch} {e : Env} {s : State} {m : MethodId} {args : Array Value} {below : List Frame} {meth : Method} {c : Code} {H : Heap} {locs : List Loc} {ls : Array Slot} {g : GG} {p1 : Int32 → Hp → Prop}
    (hd : decode M.2.1 pc = .ok (.invokestatic i, 3)) (hc : CSw M.1.cls i Z ∨ CNw M.1.cls i Z) (hz : ZW Z n) (hn : As.length = n) (hr : S.length ≤ 8) (hdz : d2 + 1 ≤ d) (hm : Mt Z d2 As h p1)
    (C : Cx M p s m args meth c) (hP : va_P g.2.1 cls (wd g h) H) (hK : va_K g.2.1 cls (tyG g) s) (hD : va_D (gA g) (wd g h)) (hl : lv_has ls M.2.2.1 (cvL g L)) :
    va_Run p l e (rmd d) s m args below meth c H locs 0 0 0 0 (F0 m pc ls ((As.reverse ++ S).map (cv g))) (S.map (cv g)) (QQ Z.2.2.2 p1 g (As.map (cv g)).toArray) (gA g) := by
  have hts := C.2.2.2.2.2.1
  have hpre : PreS s H (va_Pc (As.map (cv g)) (fun U => Bw g h U ∧ NN U)) (As.map (cv g)) := ⟨blind _ h g, fun U hU hW => ⟨rfl, ⟨by rw [hU]; exact hP, va_K.moved hW.alike hK, hD⟩, NN.warm hW C.2.2.2.2.2.2.2⟩⟩
  rcases hc with hc | hc
  · refine va_runS (As := As.map (cv g)) (index := i) (bytes := Z.2.1) (maxL := Z.2.2.1) (ret := Z.2.2.2) (n := n) (own := M.1.cls) ⟨C.1, C.2.1, C.2.2.2.1, C.2.2.2.2.1, hts⟩ (hm l g) (va_cwS n hts (fun w hw => ?_) rfl rfl rfl hz.2.2.1 (room_d hz hdz)) hpre rfl (by simpa using hn) hl.1 (by simp) (lv_room (by rw [cat_sum]; exact hr)) hd ⟨Nat.le_refl 0, Nat.le_refl 0⟩
    unfold va_wsS at hw
    rcases List.mem_append.mp hw with h1 | h1
    · simp only [List.mem_cons, List.not_mem_nil, or_false] at h1
      rcases h1 with rfl | rfl | rfl
      · exact ⟨tbl_in hc.1 rfl, Or.inl rfl⟩
      · exact ⟨tbl_in hc.2 rfl, Or.inl rfl⟩
      · exact ⟨hz.2.1, Or.inl rfl⟩
    · exact good_ws hz w h1
  · exact va_runSN (As := As.map (cv g)) (index := i) (bytes := Z.2.1) (maxL := Z.2.2.1) (ret := Z.2.2.2) (n := n) (own := M.1.cls) ⟨C.1, C.2.1, C.2.2.2.1, C.2.2.2.2.1, hts⟩ (hm l g) ⟨va_cnB n hts (good_ws hz) rfl rfl rfl (C.2.2.2.2.2.2.2 _ hc.1) (hts _ hz.2.1) hz.2.2.1 (room_d hz hdz), hts _ (tbl_in hc.2 rfl), trivial⟩ hpre rfl (by simpa using hn) hl.1 (by simp) (lv_room (by rw [cat_sum]; exact hr)) hd ⟨Nat.le_refl 0, Nat.le_refl 0⟩
theorem ev_callS {ty : FieldType} (hd : decode M.2.1 pc = .ok (.invokestatic i, 3)) (hc : CSw M.1.cls i Z ∨ CNw M.1.cls i Z) (hz : ZW Z n) (hn : As.length = n) (hr : S.length ≤ 8) (hdz : d2 + 1 ≤ d) (hS0 : As.reverse ++ S = S0) (hret : Z.2.2.2 = some ty) (hm : ∀ p1, Sat p1 o → Mt Z d2 As h p1) (hs : Sat post (cal o f)) (kk : ∀ r u, Sat post (f r u) → Ev M d (pc + 3) L (.inl r :: S) u post) : Ev M d pc L S0 h post := by
  intro p l e s m args below meth c H locs ls g C hP hK hD hS hl
  subst hS0
  have hrun := run_S (l := l) (e := e) (below := below) (locs := locs) (S := S) hd hc hz hn hr hdz (hm _ (sat_cal hs)) C hP hK hD hl
  rw [hret] at hrun
  refine va_calli (a := #[]) hrun hS (fun _ _ h => h) (fun _ h => h) (fun r u t H1 locs1 ht hvm hw hB hz1 hk1 hS1 => ?_)
  exact kk r u hw p l e s m args below meth c H1 locs1 ls g C (by rw [← ht]; exact hB.1) hK hB.2.2 hS1 hl
theorem ev_callSv (hd : decode M.2.1 pc = .ok (.invokestatic i, 3)) (hc : CSw M.1.cls i Z ∨ CNw M.1.cls i Z) (hz : ZW Z n) (hn : As.length = n) (hr : S.length ≤ 8) (hdz : d2 + 1 ≤ d) (hS0 : As.reverse ++ S = S0) (hret : Z.2.2.2 = none) (hm : ∀ p1, Sat p1 o → Mt Z d2 As h p1) (hs : Sat post (cal o f)) (kk : ∀ r u, Sat post (f r u) → Ev M d (pc + 3) L S u post) : Ev M d pc L S0 h post := by
  intro p l e s m args below meth c H locs ls g C hP hK hD hS hl
  subst hS0
  have hrun := run_S (l := l) (e := e) (below := below) (locs := locs) (S := S) hd hc hz hn hr hdz (hm _ (sat_cal hs)) C hP hK hD hl
  rw [hret] at hrun
  refine va_callv (a := #[]) hrun hS (fun _ _ h => h) (fun _ h => h) (fun u t H1 locs1 ht hvm hw hB hz1 hk1 hS1 => ?_)
  exact kk 0 u hw p l e s m args below meth c H1 locs1 ls g C (by rw [← ht]; exact hB.1) hK hB.2.2 hS1 hl
end One
theorem sat_sw {x : Int32} {dflt : RO} : ∀ {l : List RO} {i : Nat}, Sat post (swf x i l dflt) → (∃ j o, l[j]? = some o ∧ x = nI (i + j) ∧ Sat post o) ∨ ((∀ j, j < l.length → x ≠ nI (i + j)) ∧ Sat post dflt)
  | [], i, hs => Or.inr ⟨fun j hj => absurd hj (Nat.not_lt_zero j), hs⟩
  | a :: l, i, hs => by
    unfold swf at hs
    split at hs
    · rename_i hx
      exact Or.inl ⟨0, a, rfl, hx, hs⟩
    · rename_i hx
      rcases sat_sw hs with ⟨j, o, h1, h2, h3⟩ | ⟨h1, h2⟩
      · exact Or.inl ⟨j + 1, o, by simpa using h1, by rw [h2]; congr 1; omega, h3⟩
      · refine Or.inr ⟨fun j hj => ?_, h2⟩
        cases j with
        | zero => exact hx
        | succ j =>
          have := h1 j (by simpa using hj)
          rwa [show i + (j + 1) = i + 1 + j by omega]
theorem ev_tsw {x : Int32} {dflt hi : Int} {offs : Array Int} {len n dt : Nat} {l : List RO} {o : RO} (tg : List Nat) (hd : decode M.2.1 pc = .ok (.tableswitch dflt 0 hi offs, len)) (hn : l.length = n) (hn2 : hi + 1 = (n : Int)) (hnb : n < 100) (htg : tg.length = n) (ho : ∀ j, j < n → (offs[j]?).map (fun z => (pc : Int) + z) = (tg[j]?).map (fun z : Nat => (z : Int))) (hdt : (pc : Int) + dflt = (dt : Int)) (hs : Sat post (swf x 0 l o))
    (kk : ∀ (j : Nat) (a : RO) (t : Nat), l[j]? = some a → tg[j]? = some t → Sat post a → Ev M d t L S h post) (kd : Sat post o → Ev M d dt L S h post) : Ev M d pc L (.inl x :: S) h post := by
  intro p le e s m args below meth c H locs ls g C hP hK hD hS hl
  rcases sat_sw hs with ⟨j, a, h1, h2, h3⟩ | ⟨h1, h2⟩
  · rw [Nat.zero_add] at h2
    have hj : j < n := by rw [← hn]; exact (List.getElem?_eq_some_iff.mp h1).1
    obtain ⟨t, ht⟩ : ∃ t, tg[j]? = some t := ⟨tg[j], List.getElem?_eq_getElem (by omega)⟩
    have hx : x.toInt = (j : Int) := by rw [h2]; exact nI_toInt (by omega)
    have hoj := ho j hj
    rw [ht] at hoj
    cases hof : offs[j]? with
    | none => rw [hof] at hoj; cases hoj
    | some z =>
      rw [hof] at hoj
      have hz : (pc : Int) + z = (t : Int) := Option.some.inj hoj
      exact lv_tableIn (tgt := t) C.1 C.2.1 hd (by omega) (by omega) (by rw [hx]; simpa using hof) hz (kk j a t h1 ht h3 p le e s m args below meth c H locs ls g C hP hK hD hS hl)
  · refine lv_tableOut C.1 C.2.1 hd ?_ hdt (kd h2 p le e s m args below meth c H locs ls g C hP hK hD hS hl)
    rcases Int.lt_or_le x.toInt 0 with hx | hx
    · exact Or.inl hx
    · right
      rcases Int.lt_or_le hi x.toInt with hy | hy
      · exact hy
      · exfalso
        have hj : x.toInt.toNat < l.length := by omega
        refine h1 _ hj ?_
        rw [Nat.zero_add]
        apply Int32.toInt_inj.mp
        rw [nI_toInt (by omega)]
        omega
theorem wd_acp (g : GG) (h : Hp) {a b n : Nat} (hb : lay[b]? = some (.inl (false, n))) : (wd g h).set b (g.1 b, .inl (g.2.2.1, n, .inl (va_cpy (h a) (h b) 0 0 n))) = wd g (acp h a b n) := by
  apply List.ext_getElem?
  intro z
  unfold wd
  rw [List.getElem?_set, List.getElem?_mapIdx, List.getElem?_mapIdx, List.length_mapIdx]
  by_cases hz : b = z
  · subst hz
    rw [if_pos rfl, if_pos (show b < lay.length from lay_lt hb), hb]
    simp [ce, acp]
  · rw [if_neg hz]
    congr 1
    funext sp
    have e : acp h a b n z = h z := if_neg (fun q => hz q.symm)
    unfold ce
    cases sp with
    | inl q => simp [e]
    | inr o =>
      have e2 : fv g (acp h a b n) z = fv g h z := by
        funext y f
        cases f <;> simp [fv, e]
      simp [e2]
theorem ev_acopy {i a b n : Nat} {v : Int32} (hd : decode M.2.1 pc = .ok (.invokestatic i, 3)) (h1 : Cond.methodLink M.1.cls i arraycopyName ∈ tbl) (h2 : Cond.native arraycopyName ∈ tbl) (h3 : Cond.static arraycopyName ∈ tbl) (h4 : Cond.initialized "java/lang/System" ∈ tbl) (ha : lay[a]? = some (.inl (false, n))) (hb : lay[b]? = some (.inl (false, n))) (hv : v = nI n) (hnb : n < 1000) (hd1 : 1 ≤ d) (hr : S = [])
    (hw : nativeFrameWords "java/lang/System" "arraycopy" 5 ≤ 20) (kk : Ev M d (pc + 3) L S (acp h a b n) post) : Ev M d pc L (.inl v :: .inl 0 :: .inr b :: .inl 0 :: .inr a :: S) h post := by
  intro p l e s m args below meth c H locs ls g C hP hK hD hS hl
  have hts := C.2.2.2.2.2.1
  subst hv
  subst hr
  have e0 : (0 : Int32).toNatClampNeg = 0 := rfl
  have en : (nI n).toNatClampNeg = n := nI_clamp (by omega)
  refine va_copyi (ws := wd g h) (ty := .int) C.1 C.2.1 (by rw [C.2.2.2.1, hl.1]) C.2.2.2.2.1 (hts _ h1) (hts _ h2) (hts _ h3) (hts _ h4) hK hP hD hS a b 0 0 (wd_at g h ha) (wd_at g h hb) rfl rfl rfl (sp := 0) (dp := 0) (n := nI n) (by decide) (by decide) (nI_pos (by omega)) (by rw [e0, en]; omega) (by rw [e0, en]; omega) (fun _ _ => rfl) hd1 ?_ hd (fun H1 locs1 hP1 hD1 hS1 => ?_)
  · show 0 + _ ≤ 40 * d
    omega
  · rw [e0, en] at hP1 hD1
    have hu := wd_acp g h (a := a) hb
    have hP2 : va_P g.2.1 cls ((wd g h).set b (g.1 b, .inl (g.2.2.1, n, .inl (va_cpy (h a) (h b) 0 0 n)))) H1 := hP1
    have hD2 : va_D (gA g) ((wd g h).set b (g.1 b, .inl (g.2.2.1, n, .inl (va_cpy (h a) (h b) 0 0 n)))) := hD1
    rw [hu] at hP2 hD2
    exact kk p l e s m args below meth c H1 locs1 ls g C hP2 hK hD2 hS1 hl
end EvCalls
