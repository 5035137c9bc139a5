section Consts
variable {m pc nx : Nat} {md : zMD}
/-- a static field, seen from a later state -/
theorem zZs {G : zgl} {s : State} {C n d : String} {v : Value} (h0 : zE0 G s) (h : va_Z C n d v (zA G) G.2.2.2.2 G.2.2.2.2.heap) : va_Z C n d v (zA G) s s.heap := (va_Z.moved h0.1.alike h).kept fun a ha _ => h0.2.2 a ha
theorem ok_gets {index v : Nat} {C n d : String} (hm : zM m = some md) (hd : decode md.2.1 pc = .ok (.getstatic index, 3)) (hn : pc + 3 = nx) (hq : (C, n, d, v) ∈ zstl) (hlink : Cond.fieldLink md.1.cls index C n d ∈ zTg) : zOK zPre m pc (s_k v nx) := by
  subst hn
  intro G ctx ih hG hN hP hI dep ls st h o ho
  obtain ⟨h3, h4⟩ := hI m (pc + 3) dep ls (v :: st) h o ho
  refine ⟨h3, fun p e R s mid args below meth cc H locs cells slots Q ad lsA vals q1 q2 q3 q4 q5 q6 q7 q8 => ?_⟩
  obtain ⟨X, z1, z2⟩ := hP.2.2.2.2.1 _ hq
  obtain ⟨hx, hb, -, hown, hts, -⟩ := q1.of hm
  exact va_gets hx hb (zZs q2 z1) q3 hown (hts _ hlink) (fun x hx => hx) hd (h4 p e R s mid args below meth cc H locs cells slots Q ad lsA (X :: vals) q1 q2 q3 q4 q5 (zall.cons (z2 ad) q6) q7 q8)
theorem ok_ldcT {index v : Nat} {tx : String} (hm : zM m = some md) (hd : decode md.2.1 pc = .ok (.ldc index, 2)) (hn : pc + 2 = nx) (hcl : md.1.cls = "ResidueworksModel") (hq : (index, tx, v) ∈ ztxl) : zOK zPre m pc (s_k v nx) := by
  subst hn
  intro G ctx ih hG hN hP hI dep ls st h o ho
  obtain ⟨h3, h4⟩ := hI m (pc + 2) dep ls (v :: st) h o ho
  refine ⟨h3, fun p e R s mid args below meth cc H locs cells slots Q ad lsA vals q1 q2 q3 q4 q5 q6 q7 q8 => ?_⟩
  obtain ⟨a, z1, z2⟩ := hP.2.2.2.2.2.1 _ hq
  obtain ⟨hx, hb, -, hown, hts, -⟩ := q1.of hm
  rw [hcl] at hown
  exact va_ldcS hx hb hown (vk_R.warm q2.1 z1) hd (h4 p e R s mid args below meth cc H locs cells slots Q ad lsA (.ref a :: vals) q1 q2 q3 q4 q5 (zall.cons (z2 ad) q6) q7 q8)
theorem ok_ldcTW {index v : Nat} {tx : String} (hm : zM m = some md) (hd : decode md.2.1 pc = .ok (.ldc_w index, 3)) (hn : pc + 3 = nx) (hcl : md.1.cls = "ResidueworksModel") (hq : (index, tx, v) ∈ ztxl) : zOK zPre m pc (s_k v nx) := by
  subst hn
  intro G ctx ih hG hN hP hI dep ls st h o ho
  obtain ⟨h3, h4⟩ := hI m (pc + 3) dep ls (v :: st) h o ho
  refine ⟨h3, fun p e R s mid args below meth cc H locs cells slots Q ad lsA vals q1 q2 q3 q4 q5 q6 q7 q8 => ?_⟩
  obtain ⟨a, z1, z2⟩ := hP.2.2.2.2.2.1 _ hq
  obtain ⟨hx, hb, -, hown, hts, -⟩ := q1.of hm
  rw [hcl] at hown
  have z3 := vk_R.warm q2.1 z1
  intro T hT X
  obtain ⟨t, a1, b1⟩ := h4 p e R s mid args below meth cc H locs cells slots Q ad lsA (.ref a :: vals) q1 q2 q3 q4 q5 (zall.cons (z2 ad) q6) q7 q8 T hT X
  exact ⟨t, X.ldcStringW hx hown (text := tx) (a := a) z3.1 z3.2 (g := F0 mid pc lsA vals) rfl (by rw [hb]; exact hd) t a1, b1⟩
end Consts
