/-! ALL OPS AGREE; THE START -/
def hI : Hp := fun k => match k with
  | 1 => fun j => match j with
    | 0 => 1
    | 1 => 1
    | _ => 0
  | 2 => fun j => match j with
    | 0 => 1
    | 1 => 1
    | _ => 0
  | 3 => fun j => match j with
    | 2 => 1
    | 3 => 1
    | 8 => -1
    | _ => 0
  | 28 => fun j => match j with
    | 0 => 1
    | 1 => 1
    | _ => 0
  | _ => fun _ => 0
def Agree (Inv : Hp → Prop) (o1 o2 : Hp → RO) : Prop := ∀ h, Inv h → ∃ (r : Int32) (h1 h2 : Hp), o1 h = some (r, h1) ∧ o2 h1 = some (r, h2) ∧ Inv h2
def AllAgree (Inv : Hp → Prop) : Prop := ∀ a b c : Int32,
  Agree Inv (fun h => fX_sheet h a b) (fun h => fM_sheet h a b) ∧
  Agree Inv (fun h => fX_piece h a b c) (fun h => fM_piece h a b c) ∧
  Agree Inv (fun h => fX_drop h) (fun h => fM_drop h) ∧
  Agree Inv (fun h => fX_mark h a b c) (fun h => fM_mark h a b c) ∧
  Agree Inv (fun h => fX_like h a b) (fun h => fM_like h a b) ∧
  Agree Inv (fun h => fX_letter h a b c) (fun h => fM_letter h a b c) ∧
  Agree Inv (fun h => fX_wear h a b) (fun h => fM_wear h a b) ∧
  Agree Inv (fun h => fX_dated h a b c) (fun h => fM_dated h a b c) ∧
  Agree Inv (fun h => fX_out h a (if b = 0 then 0 else 1)) (fun h => fM_out h a (if b = 0 then 0 else 1)) ∧
  Agree Inv (fun h => fX_bar h a b) (fun h => fM_bar h a b) ∧
  Agree Inv (fun h => fX_free h) (fun h => fM_free h) ∧
  Agree Inv (fun h => fX_of h a b) (fun h => fM_of h a b) ∧
  Agree Inv (fun h => fX_told h a b) (fun h => fM_told h a b) ∧
  Agree Inv (fun h => fX_quarrel h) (fun h => fM_quarrel h) ∧
  Agree Inv (fun h => fX_layings h) (fun h => fM_layings h) ∧
  Agree Inv (fun h => fX_laying h a b) (fun h => fM_laying h a b) ∧
  Agree Inv (fun h => fX_place h a) (fun h => fM_place h a) ∧
  Agree Inv (fun h => fX_rivals h a) (fun h => fM_rivals h a) ∧
  Agree Inv (fun h => fX_order h a b) (fun h => fM_order h a b) ∧
  Agree Inv (fun h => fX_known h a b) (fun h => fM_known h a b) ∧
  Agree Inv (fun h => fX_changes h a b) (fun h => fM_changes h a b) ∧
  Agree Inv (fun h => fX_breaks h a) (fun h => fM_breaks h a) ∧
  Agree Inv (fun h => fX_inverted h) (fun h => fM_inverted h) ∧
  Agree Inv (fun h => fX_span h a b) (fun h => fM_span h a b) ∧
  Agree Inv (fun h => fX_unseen h a) (fun h => fM_unseen h a) ∧
  Agree Inv (fun h => fX_many h a) (fun h => fM_many h a) ∧
  Agree Inv (fun h => fX_keep h) (fun h => fM_keep h) ∧
  Agree Inv (fun h => fX_back h) (fun h => fM_back h)
def sI : Sg := fun k j => if k = 0 then (if j < 2 then 1 else 0) else (if k = 8 ∨ k = 9 ∨ k = 11 then 1 else 0)
theorem sI_ms : MS sI hI := by
  refine ⟨fun i hi => ?_, fun k k1 k2 j hj => ?_⟩
  · rcases (show i = 0 ∨ i = 1 ∨ i = 2 ∨ i = 3 ∨ i = 4 by omega) with e | e | e | e | e <;> subst e <;> rfl
  · rcases (show k = 1 ∨ k = 2 ∨ k = 3 ∨ k = 4 ∨ k = 5 ∨ k = 6 ∨ k = 7 ∨ k = 8 ∨ k = 9 ∨ k = 10 ∨ k = 11 ∨ k = 12 ∨ k = 13 ∨ k = 14 by omega) with e | e | e | e | e | e | e | e | e | e | e | e | e | e <;> subst e <;> first | rfl | (show (0 : Int32) = nI 1 - 1; decide)
theorem sI_wf : WF sI := by
  refine ⟨by decide, fun p hp => absurd hp (by show ¬ p < 0; omega), ⟨fun hp => absurd hp (by decide), fun p hp => absurd hp (by show ¬ p + 1 < 0; omega), fun _ => rfl, fun p hp => absurd hp (by show ¬ p + 1 = 0; omega)⟩, fun p c hp => absurd hp (by show ¬ p < 0; omega), fun c hc => absurd hc (by show ¬ c < 0; omega), fun k hk => absurd hk (by show ¬ k < 0; omega)⟩
theorem sI_cs : CS sI hI := by
  refine ⟨fun i hi => ?_, fun p w hp => absurd hp (by show ¬ p < 0; omega), fun q w hq => absurd hq (by show ¬ q < 0; omega), fun m hm => ?_⟩
  · rcases (show i = 0 ∨ i = 1 ∨ i = 2 ∨ i = 3 ∨ i = 4 by omega) with e | e | e | e | e <;> subst e <;> rfl
  · rfl
theorem inv_start : InvX SF hI := ⟨sI, sI_wf, sI_ms, sI_cs, Or.inl ⟨rfl, rfl⟩, fun p _ => Nat.zero_le 1, Or.inl rfl⟩
theorem all_agree : AllAgree (InvX SF) := fun a b c => ⟨ag_sheet a b, ag_piece a b c, ag_drop, ag_mark a b c, ag_like a b, ag_letter a b c, ag_wear SF_ok a b, ag_dated SF_ok a b c, ag_out SF_ok a _ (by
  by_cases z : b = 0
  · exact Or.inl (if_pos z)
  · exact Or.inr (if_neg z)), ag_bar a b, ag_free, ag_of a b, ag_told a b, ag_quarrel, ag_layings, ag_laying a b, ag_place a, ag_rivals a, ag_order a b, ag_known a b, ag_changes a b, ag_breaks a, ag_inverted, ag_span a b, ag_unseen a, ag_many a, ag_keep SF_ok, ag_back⟩
