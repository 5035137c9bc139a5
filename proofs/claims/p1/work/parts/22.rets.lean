section Rets
variable {Pre : zgl → zctx → Prop} {m pc nx : Nat} {md : zMD}
/-- which types an instruction hands back -/
def zrty (t : Nat) (ty : FieldType) (i : Instr) : Prop := match t with
  | 0 => ty = .int ∧ i = .ireturn
  | 1 => ty = .long ∧ i = .lreturn
  | 2 => ty = .float ∧ i = .freturn
  | 3 => ty = .double ∧ i = .dreturn
  | _ => ((∃ n, ty = .object n) ∨ ∃ t, ty = .array t) ∧ i = .areturn
theorem zrtyI {t : Nat} {ty : FieldType} {i : Instr} {X : Value} (h : zrty t ty i) (hX : zkV t X) : zretI (some ty) X i := by
  refine ⟨ty, rfl, ?_⟩
  rcases t with _ | _ | _ | _ | t
  · obtain ⟨rfl, rfl⟩ : ty = .int ∧ i = .ireturn := h
    obtain ⟨v, rfl⟩ : ∃ v, X = .int v := hX
    exact Or.inl ⟨v, rfl, rfl, rfl⟩
  · obtain ⟨rfl, rfl⟩ : ty = .long ∧ i = .lreturn := h
    obtain ⟨v, rfl⟩ : ∃ v, X = .long v := hX
    exact Or.inr (Or.inl ⟨v, rfl, rfl, rfl⟩)
  · obtain ⟨rfl, rfl⟩ : ty = .float ∧ i = .freturn := h
    obtain ⟨v, rfl⟩ : ∃ v, X = .float v := hX
    exact Or.inr (Or.inr (Or.inr (Or.inr ⟨v, rfl, rfl, rfl⟩)))
  · obtain ⟨rfl, rfl⟩ : ty = .double ∧ i = .dreturn := h
    obtain ⟨v, rfl⟩ : ∃ v, X = .double v := hX
    exact Or.inr (Or.inr (Or.inr (Or.inl ⟨v, rfl, rfl, rfl⟩)))
  · obtain ⟨h1, rfl⟩ : ((∃ n, ty = .object n) ∨ ∃ t, ty = .array t) ∧ i = .areturn := h
    have hX : X = .null ∨ ∃ u, X = .ref u := hX
    exact Or.inr (Or.inr (Or.inl ⟨hX, h1, rfl⟩))
theorem zret_end {i : Instr} {v : Nat} {ty : FieldType} (hm : zM m = some md) (hty : md.2.2.2.1 = some ty) (hd : decode md.2.1 pc = .ok (i, 1)) (hX : ∀ (E : zen) (ad : zam) (X : Value), zEok E → zrel E ad v X → zretI (some ty) X i) {G : zgl} (hG : zEok G.2.1) (dep : Nat) (ls : List Nat) (h : zh) : zW G m pc dep ls [v] h (1, v, h) := by
  intro p e R s mid args below meth cc H locs cells slots Q ad lsA vals q1 q2 q3 q4 q5 q6 q7 q8
  obtain ⟨X, vals, rfl, r1, hvs⟩ := q6.inv
  obtain rfl := hvs.inil
  obtain ⟨hx, hb, -, -, -, -, hrt, -⟩ := q1.of hm
  have k := q8.2.1 rfl ad H locs lsA pc X i (zle.rf ad) q4 q3 r1 (by rw [hrt, hty]; exact hX _ _ _ hG r1) (by rw [hb]; exact hd)
  have e1 : cells + (h.2.1 - h.2.1) = cells := by omega
  have e2 : slots + (h.2.2.1 - h.2.2.1) = slots := by omega
  have k : W p G.1 e R s mid args below meth cc H locs (cells + (h.2.1 - h.2.1)) (slots + (h.2.2.1 - h.2.2.1)) Q (F0 mid pc lsA [X]) := k
  rw [e1, e2] at k
  exact k
theorem ok_ret0 {t : Nat} {i : Instr} {ty : FieldType} (hm : zM m = some md) (hty : md.2.2.2.1 = some ty) (hd : decode md.2.1 pc = .ok (i, 1)) (hi : zrty t ty i) : zOK Pre m pc (s_ret (zmsk t)) := by
  intro G ctx ih hG hN hP hI dep ls st h o ho
  obtain ⟨v, t, rfl, h9⟩ := zLs ho
  obtain ⟨b1, h9⟩ := zmask' h9
  cases t with
  | cons a t => cases h9
  | nil =>
    have e : (1, v, h) = o := Option.some.inj h9
    subst e
    exact ⟨zmo.rf h, zret_end hm hty hd (fun E ad X hE r => zrtyI hi (zmskV hE b1 r)) hG dep ls h⟩
/-- the types that narrow: 1 boolean, 2 byte, 3 char -/
def zrnt (ft : Nat) : FieldType := match ft with
  | 1 => .boolean
  | 2 => .byte
  | _ => .char
theorem ok_rz {ft : Nat} (hft : ft = 1 ∨ ft = 2 ∨ ft = 3) (hm : zM m = some md) (hty : md.2.2.2.1 = some (zrnt ft)) (hd : decode md.2.1 pc = .ok (.ireturn, 1)) : zOK Pre m pc (s_rz ft) := by
  intro G ctx ih hG hN hP hI dep ls st h o ho
  obtain ⟨v, t, rfl, h9⟩ := zLs ho
  obtain ⟨b1, h9⟩ := zfit_r hft h9
  cases t with
  | cons a t => cases h9
  | nil =>
    have e : (1, v, h) = o := Option.some.inj h9
    subst e
    refine ⟨zmo.rf h, zret_end hm hty hd (fun E ad X hE r => ?_) hG dep ls h⟩
    have hX := b1 E ad X r
    rcases hft with rfl | rfl | rfl
    · obtain ⟨n, -, rfl⟩ := id hX
      exact ⟨_, rfl, Or.inl ⟨_, rfl, (zfty1 _ hX).1, rfl⟩⟩
    · obtain ⟨n, rfl⟩ := id hX
      exact ⟨_, rfl, Or.inl ⟨_, rfl, (zfty2 _ hX).1, rfl⟩⟩
    · obtain ⟨n, -, rfl⟩ := id hX
      exact ⟨_, rfl, Or.inl ⟨_, rfl, (zfty3 _ hX).1, rfl⟩⟩
theorem ok_rv (hm : zM m = some md) (hty : md.2.2.2.1 = none) (hd : decode md.2.1 pc = .ok (.return_, 1)) : zOK Pre m pc s_rv := by
  intro G ctx ih hG hN hP hI dep ls st h o ho
  cases st with
  | cons a t => cases ho
  | nil =>
    have e : (0, 9, h) = o := Option.some.inj ho
    subst e
    refine ⟨zmo.rf h, fun p e R s mid args below meth cc H locs cells slots Q ad lsA vals q1 q2 q3 q4 q5 q6 q7 q8 => ?_⟩
    obtain rfl := q6.inil
    obtain ⟨hx, hb, -, -, -, -, hrt, -⟩ := q1.of hm
    have k := q8.1.1 rfl ad H locs lsA pc (zle.rf ad) q4 q3 (by rw [hrt, hty]) (by rw [hb]; exact hd)
    have e1 : cells + (h.2.1 - h.2.1) = cells := by omega
    have e2 : slots + (h.2.2.1 - h.2.2.1) = slots := by omega
    have k : W p G.1 e R s mid args below meth cc H locs (cells + (h.2.1 - h.2.1)) (slots + (h.2.2.1 - h.2.2.1)) Q (F0 mid pc lsA []) := k
    rw [e1, e2] at k
    exact k
end Rets
