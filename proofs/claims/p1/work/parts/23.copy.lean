section Copy
variable {m pc nx : Nat} {md : zMD}
theorem zcpf_s {o : zo} : ∀ {n : Nat} {s d : List Nat} {k : List Nat → zR}, zcpf n s d k = some o → n ≤ s.length ∧ n ≤ d.length ∧ ∃ r, k r = some o ∧ ∀ (j w : Nat), r[j]? = some w → (j < n ∧ s[j]? = some w) ∨ (n ≤ j ∧ d[j]? = some w) := by
  intro n
  induction n with
  | zero => exact fun h => ⟨Nat.zero_le _, Nat.zero_le _, _, h, fun j w hw => Or.inr ⟨Nat.zero_le _, hw⟩⟩
  | succ n ih =>
    intro s d k h
    obtain ⟨a, s, rfl, h9⟩ := zLs h
    obtain ⟨b, d, rfl, h8⟩ := zLs h9
    have h8 : zcpf n s d (fun r => k (a :: r)) = some o := h8
    obtain ⟨k1, k2, r, k3, k4⟩ := ih h8
    refine ⟨by simpa using k1, by simpa using k2, a :: r, k3, fun j w hw => ?_⟩
    cases j with
    | zero => exact Or.inl ⟨Nat.succ_pos n, hw⟩
    | succ j =>
      rcases k4 j w (by simpa using hw) with ⟨z1, z2⟩ | ⟨z1, z2⟩
      · exact Or.inl ⟨by omega, by simpa using z2⟩
      · exact Or.inr ⟨by omega, by simpa using z2⟩
theorem ok_cp {index : Nat} (hm : zM m = some md) (hd : decode md.2.1 pc = .ok (.invokestatic index, 3)) (hn : pc + 3 = nx) (hlink : Cond.methodLink md.1.cls index arraycopyName ∈ zTg) (hnat : Cond.native arraycopyName ∈ zTg) (hstat : Cond.static arraycopyName ∈ zTg) (hini : Cond.initialized "java/lang/System" ∈ zTg) : zOK zPre m pc (s_cp nx) := by
  subst hn
  intro G ctx ih hG hN hP hI dep ls st h o ho
  obtain ⟨n, t, rfl, h1⟩ := zLs ho
  obtain ⟨dp, t, rfl, h2⟩ := zLs h1
  obtain ⟨d, t, rfl, h3⟩ := zLs h2
  obtain ⟨sp, t, rfl, h4⟩ := zLs h3
  obtain ⟨s0, t, rfl, h5⟩ := zLs h4
  obtain ⟨b1, h5⟩ := zB h5
  obtain ⟨b2, h5⟩ := zB h5
  obtain ⟨b3, h5⟩ := zB h5
  obtain ⟨b4, h5⟩ := zB h5
  obtain ⟨b5, h5⟩ := zB h5
  obtain ⟨la, h6⟩ := zcel_s h5
  obtain ⟨lb, h7⟩ := zcel_s h6
  obtain ⟨b6, h7⟩ := zB h7
  obtain ⟨b7, h7⟩ := zB h7
  obtain ⟨b8, h7⟩ := zB h7
  obtain ⟨b9, h7⟩ := zB h7
  obtain ⟨h8, hsm⟩ := zsm_s h7
  obtain ⟨y1, y2, r, h9, hr⟩ := zcpf_s h8
  rw [zsetc_s] at h9
  have b4 : dp = 16 * 0 := zbeq b4
  have b5 : sp = 16 * 0 := zbeq b5
  subst b4
  subst b5
  have b6 : (zG h.2.2.2 (Nat.shiftRight d 4)).1 = 20 := zbeq b6
  have b7 : (zG h.2.2.2 (Nat.shiftRight s0 4)).1 = 20 := zbeq b7
  have b8 : Nat.shiftRight n 4 ≤ (zG h.2.2.2 (Nat.shiftRight d 4)).2.1 := zble b8
  have b9 : Nat.shiftRight n 4 ≤ (zG h.2.2.2 (Nat.shiftRight s0 4)).2.1 := zble b9
  have hr : ∀ (j w : Nat), r[j]? = some w → (j < Nat.shiftRight n 4 ∧ (zG h.2.2.2 (Nat.shiftRight s0 4)).2.2[j]? = some w) ∨ (Nat.shiftRight n 4 ≤ j ∧ (zG h.2.2.2 (Nat.shiftRight d 4)).2.2[j]? = some w) := hr
  have la : Nat.shiftRight d 4 < h.1 := la
  have lb : Nat.shiftRight s0 4 < h.1 := lb
  obtain ⟨k1, k2⟩ := hI m (pc + 3) dep ls t _ o h9
  rw [zs4] at la b6
  rw [zs4] at lb b7
  rw [zs4, zs4] at b8 b9
  refine ⟨k1, fun p e R s mid args below meth cc H locs cells slots Q ad lsA vals q1 q2 q3 q4 q5 q6 q7 q8 => ?_⟩
  obtain ⟨X1, vals, rfl, r1, hv1⟩ := q6.inv
  obtain ⟨X2, vals, rfl, r2, hv2⟩ := hv1.inv
  obtain ⟨X3, vals, rfl, r3, hv3⟩ := hv2.inv
  obtain ⟨X4, vals, rfl, r4, hv4⟩ := hv3.inv
  obtain ⟨X5, vals, rfl, r5, hv5⟩ := hv4.inv
  obtain ⟨N, rfl, hN2, rfl⟩ := zn0 (zkq b1) r1
  obtain ⟨z2, e2, -, rfl⟩ := zn0 (by omega) r2
  obtain rfl : z2 = 0 := by omega
  obtain ⟨z4, e4, -, rfl⟩ := zn0 (by omega) r4
  obtain rfl : z4 = 0 := by omega
  obtain ⟨-, rfl⟩ := (zr4 (zkq b2) X3).mp r3
  obtain ⟨-, rfl⟩ := (zr4 (zkq b3) X5).mp r5
  have hs : _ ≤ 8 := hsm G.2.1 ad vals hG hv5
  obtain ⟨w1, w2, -, -⟩ := id q7
  obtain ⟨hx, hb, -, hown, hts, -⟩ := q1.of hm
  obtain ⟨-, -, g3, g4, es, g5⟩ := id q4
  obtain ⟨⟨u0, u1⟩, u2⟩ := g5 _ la
  obtain ⟨⟨v0, v1⟩, v2⟩ := g5 _ lb
  rw [zq16] at b8 b9
  rcases u1 with ⟨z, -⟩ | ⟨z, g, hE, hg⟩ | ⟨z, -⟩ | ⟨z, -⟩ | ⟨z, -⟩ | ⟨z, -⟩
  · exfalso; omega
  · rcases v1 with ⟨z', -⟩ | ⟨z', f, hF, hf⟩ | ⟨z', -⟩ | ⟨z', -⟩ | ⟨z', -⟩ | ⟨z', -⟩
    · exfalso; omega
    · rw [b6] at hE
      rw [b7] at hF
      have he := (zws_at (ad := ad) (es := es) la).trans (congrArg some (congrArg (Prod.mk _) hE))
      have hf' := (zws_at (ad := ad) (es := es) lb).trans (congrArg some (congrArg (Prod.mk _) hF))
      have c0 : (nI 0).toNatClampNeg = 0 := nI_clamp (by decide)
      have cN : (nI N).toNatClampNeg = N := nI_clamp (by omega)
      refine va_copyi (ws := zws h.1 ad es) (A := zA G) hx hb q5.1.symm hown (hts _ hlink) (hts _ hnat) (hts _ hstat) (hts _ hini) (zK1 (zK hP q2)) (zws_P fun i hi => (g5 i hi).2) (zws_D g3 g4) q3 (s0 / 16) (d / 16) 0 0 hf' he (ztys_at (k := 20) (by omega) (by omega)) (ztys_at (k := 20) (by omega) (by omega)) rfl (nI_pos (by decide)) (nI_pos (by decide)) (nI_pos (by omega)) (by rw [c0, cN]; omega) (by rw [c0, cN]; omega) (fun i _ => rfl) (by omega) (by have : nativeFrameWords "java/lang/System" "arraycopy" 5 = 7 := (by decide +kernel); rw [this]; omega) hd fun H1 locs1 p1 p2 p3 => ?_
      rw [zs4] at k2
      rw [c0, cN] at p1
      refine k2 p e R s mid args below meth cc H1 locs1 cells slots Q ad lsA vals q1 q2 p3 (zHR.put (zHRn q4) (fun i hi => (g5 i hi).1) la ⟨u0, Or.inr (Or.inl ⟨by omega, _, by rw [b6], ?_⟩)⟩ p1) q5 hv5 q7 (q8.step (zle.rf ad) rfl rfl)
      intro j w hw
      have hw := hr j w hw
      rw [zs4, zs4, zs4, zq16] at hw
      rcases hw with ⟨m1, m2⟩ | ⟨m1, m2⟩
      · have : va_cpy f g 0 0 N j = f j := by unfold va_cpy; rw [if_pos ⟨Nat.zero_le _, by omega⟩]; congr 1; omega
        rw [this]; exact hf j w m2
      · have : va_cpy f g 0 0 N j = g j := by unfold va_cpy; rw [if_neg (fun z => by omega)]
        rw [this]; exact hg j w m2
    all_goals (exfalso; omega)
  all_goals (exfalso; omega)
end Copy
