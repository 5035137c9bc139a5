section Throws
variable {m pc : Nat} {md : zMD}
def zxs : List String := ["java/lang/RuntimeException", "java/lang/Exception"]
theorem zZqs {G : zgl} {s : State} {C n d : String} (h0 : zE0 G s) (h : vx_Zq C n d (zA G) G.2.2.2.2 G.2.2.2.2.heap) : vx_Zq C n d (zA G) s s.heap := (vx_Zq.moved h0.1.alike h).kept fun a ha _ => h0.2.2 a ha
set_option maxRecDepth 8000 in
theorem zlr3 {k dep L : Nat} (h1 : 300 * dep + 600 ≤ L) (h2 : k ≤ 8) : k + (13 * (2 + 1) + 43) ≤ L := by omega
/-- what a row that throws needs of the words -/
def zThw (own : String) (ik ic e : Nat) : Prop := Cond.classLink own ik (zxn e) ∈ zTg ∧ Cond.initialized (zxn e) ∈ zTg ∧ (∀ w ∈ vx_atS own ic (zxn e) zxs, w ∈ zTg ∨ w ∈ zTn) ∧ (∀ w ∈ Cond.classLink own ik (zxn e) :: Cond.initialized (zxn e) :: vx_atS own ic (zxn e) zxs, vx_ot w = true) ∧ Bundle.fit (zxn e) = true ∧ ∀ n ∈ zxs, Bundle.fit n = true
theorem ok_thrS {e ik is ic : Nat} {tx : String} (hm : zM m = some md) (htb : md.2.2.2.2 = []) (hcl : md.1.cls = "Residueworks") (hw : zThw "Residueworks" ik ic e) (htx : (is, tx) ∈ zxtl)
    (d0 : decode md.2.1 pc = .ok (.new ik, 3)) (d3 : decode md.2.1 (pc + 3) = .ok (.dup, 1)) (d4 : decode md.2.1 (pc + 4) = .ok (.ldc is, 2)) (d6 : decode md.2.1 (pc + 6) = .ok (.invokespecial ic, 3)) (d9 : decode md.2.1 (pc + 9) = .ok (.athrow, 1)) : zOK zPre m pc (s_thr e) := by
  intro G ctx ih hG hN hP hI dep ls st h o ho
  obtain ⟨h9, hsm⟩ := zsm_s ho
  have eo : (2, e, (h.1, h.2.1 + 1, h.2.2.1 + 6, h.2.2.2)) = o := Option.some.inj h9
  subst eo
  refine ⟨⟨Nat.le_refl _, Nat.le_succ _, Nat.le_add_right _ _⟩, fun p e' R s mid args below meth cc H locs cells slots Q ad lsA vals q1 q2 q3 q4 q5 q6 q7 q8 => ?_⟩
  obtain ⟨hx, hb, hml, hown, hts, hlk, -, -, htab, htn⟩ := q1.of hm
  obtain ⟨y1, y2, y3, y4⟩ := id q7
  have y3 : cells + (h.2.1 + 1 - h.2.1) ≤ R.cells := y3
  have y4 : slots + (h.2.2.1 + 6 - h.2.2.1) ≤ R.slots := y4
  obtain ⟨Qc, XC, mc', ms', free, rfl, c1, c2, c3, c4⟩ := q8.2.2 rfl
  have c1 : cells + (h.2.1 + 1 - h.2.1) ≤ mc' := c1
  have c2 : slots + (h.2.2.1 + 6 - h.2.2.1) ≤ ms' := c2
  obtain ⟨w1, w2, w3, w4, w5, w6⟩ := hw
  rw [hcl] at hown
  obtain ⟨sa, htx⟩ := hP.2.2.2.2.2.2.1 _ htx
  refine vx_throwS (own := "Residueworks") (cls := zxn e) (text := tx) (names := zxs) (ik := ik) (is := is) (ic := ic) (sa := sa) (A := zA G) hx hb hP.2.2.2.2.2.2.2.2.2.2.2.2 hown w5 w6 (hts _ w1) (hts _ w2) (vk_R.warm q2.1 htx) (fun w hw => (w3 w hw).elim (hts w) (htn w)) w4 (zZqs q2 hP.2.2.2.2.2.2.2.2.2.2.1) (zZqs q2 hP.2.2.2.2.2.2.2.2.2.2.2.1) q3 q5.1 d0 d3 d4 d6 d9 (fun x hx => by rw [htab, htb] at hx; cases hx)
    (by show 2 + 3 < R.frames; omega) (zlr3 y2 (hsm G.2.1 ad vals hG q6)) (by omega) (by omega) hlk (fun t k1 k2 k3 => c4 t ad k1 (zle.rf ad) ?_ (Nat.le_trans q3.1 k2) fun q hq hn => ?_) (fun z hz => c3 _ (q3.2.2 z hz)) (by omega) (by omega)
  · obtain ⟨g1, g2, g3, g4, es, g5⟩ := q4.kept k3
    exact ⟨g1, g2, g3, g4, es, g5⟩
  · rw [k3 q (Nat.lt_of_lt_of_le hq q3.1)]; exact q3.2.1 q hq hn
theorem ok_thrSW {e ik is ic : Nat} {tx : String} (hm : zM m = some md) (htb : md.2.2.2.2 = []) (hcl : md.1.cls = "Residueworks") (hw : zThw "Residueworks" ik ic e) (htx : (is, tx) ∈ zxtl)
    (d0 : decode md.2.1 pc = .ok (.new ik, 3)) (d3 : decode md.2.1 (pc + 3) = .ok (.dup, 1)) (d4 : decode md.2.1 (pc + 4) = .ok (.ldc_w is, 3)) (d7 : decode md.2.1 (pc + 7) = .ok (.invokespecial ic, 3)) (d10 : decode md.2.1 (pc + 10) = .ok (.athrow, 1)) : zOK zPre m pc (s_thr e) := by
  intro G ctx ih hG hN hP hI dep ls st h o ho
  obtain ⟨h9, hsm⟩ := zsm_s ho
  have eo : (2, e, (h.1, h.2.1 + 1, h.2.2.1 + 6, h.2.2.2)) = o := Option.some.inj h9
  subst eo
  refine ⟨⟨Nat.le_refl _, Nat.le_succ _, Nat.le_add_right _ _⟩, fun p e' R s mid args below meth cc H locs cells slots Q ad lsA vals q1 q2 q3 q4 q5 q6 q7 q8 => ?_⟩
  obtain ⟨hx, hb, hml, hown, hts, hlk, -, -, htab, htn⟩ := q1.of hm
  obtain ⟨y1, y2, y3, y4⟩ := id q7
  have y3 : cells + (h.2.1 + 1 - h.2.1) ≤ R.cells := y3
  have y4 : slots + (h.2.2.1 + 6 - h.2.2.1) ≤ R.slots := y4
  obtain ⟨Qc, XC, mc', ms', free, rfl, c1, c2, c3, c4⟩ := q8.2.2 rfl
  have c1 : cells + (h.2.1 + 1 - h.2.1) ≤ mc' := c1
  have c2 : slots + (h.2.2.1 + 6 - h.2.2.1) ≤ ms' := c2
  obtain ⟨w1, w2, w3, w4, w5, w6⟩ := hw
  rw [hcl] at hown
  obtain ⟨sa, htx⟩ := hP.2.2.2.2.2.2.1 _ htx
  refine vx_throwSW (own := "Residueworks") (cls := zxn e) (text := tx) (names := zxs) (ik := ik) (is := is) (ic := ic) (sa := sa) (A := zA G) hx hb hP.2.2.2.2.2.2.2.2.2.2.2.2 hown w5 w6 (hts _ w1) (hts _ w2) (vk_R.warm q2.1 htx) (fun w hw => (w3 w hw).elim (hts w) (htn w)) w4 (zZqs q2 hP.2.2.2.2.2.2.2.2.2.2.1) (zZqs q2 hP.2.2.2.2.2.2.2.2.2.2.2.1) q3 q5.1 d0 d3 d4 d7 d10 (fun x hx => by rw [htab, htb] at hx; cases hx)
    (by show 2 + 3 < R.frames; omega) (zlr3 y2 (hsm G.2.1 ad vals hG q6)) (by omega) (by omega) hlk (fun t k1 k2 k3 => c4 t ad k1 (zle.rf ad) ?_ (Nat.le_trans q3.1 k2) fun q hq hn => ?_) (fun z hz => c3 _ (q3.2.2 z hz)) (by omega) (by omega)
  · obtain ⟨g1, g2, g3, g4, es, g5⟩ := q4.kept k3
    exact ⟨g1, g2, g3, g4, es, g5⟩
  · rw [k3 q (Nat.lt_of_lt_of_le hq q3.1)]; exact q3.2.1 q hq hn
end Throws
