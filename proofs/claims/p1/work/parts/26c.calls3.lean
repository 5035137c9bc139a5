section Calls3
variable {m pc nx : Nat} {md : zMD}
theorem zlr1 {d dep F : Nat} (h : dep = d + 1) (h1 : dep + 20 ≤ F) : d + 20 + 1 ≤ F := by omega
set_option maxRecDepth 8000 in
theorem zlr2 {d dep mx L : Nat} (h : dep = d + 1) (h1 : 300 * dep + 600 ≤ L) (h2 : mx ≤ 200) : 8 + (mx + 11) + (300 * d + 600) ≤ L := by
  subst h
  rw [Nat.mul_add] at h1
  generalize 300 * d = k at h1 ⊢
  omega
theorem ok_call {vi mi mx na rv : Nat} {hs : List (Nat × Nat × Nat)} {mdc : zMD} (hm : zM m = some md) (hmi : zM mi = some mdc) (hmx : mdc.2.2.1 = mx) (hmx2 : mx ≤ 200) (hrv : rv ≤ 1) (hvi : vi = 99 ∨ vi < 16) (hpl : plainFor mdc.1 = true) (row : zCaRow vi na m pc nx mdc) (hh : zhok m pc md hs md.2.2.2.2) : zOK zPre m pc (s_call vi mi mx na rv hs nx) := by
  intro G ctx ih hG hN hP hI dep ls st h o ho
  obtain ⟨as, rest, hst, hna, ho1⟩ := zargs_s ho
  rw [List.append_nil] at ho1
  obtain ⟨ho2, hsm⟩ := zsm_s ho1
  obtain ⟨d, hdep, ho3⟩ := zN ho2
  obtain ⟨l, ho4, hl, hloc⟩ := zent_s ho3
  subst hmx
  -- the receiver
  have hrc : ∃ o1, ih mi 0 d l [] h = some o1 ∧ (@Bool.rec (fun _ => zR) (@Bool.rec (fun _ => zR) none (@Nat.rec (fun _ => zR) (ih m nx dep ls rest o1.2.2) (fun _ _ => ih m nx dep ls (o1.2.1 :: rest) o1.2.2) rv) (Nat.beq o1.1 rv)) (List.rec (motive := fun _ => zR) (some (2, o1.2.1, o1.2.2)) (fun _ _ _ => zhs o1.2.1 none (fun i nx => zst ls i 9 fun l => ih m nx dep l [] o1.2.2) hs) hs) (Nat.beq o1.1 2)) = some o ∧ (vi ≠ 99 → ∃ r t k, as = r :: t ∧ zcell h r (fun tag _ _ => @Bool.rec (fun _ => zR) none k (Nat.beq tag vi)) = some o) := by
    rcases zBc ho4 with ⟨b1, h9⟩ | ⟨b1, h9⟩
    · obtain ⟨o1, h1, h2⟩ := zOp h9
      exact ⟨o1, h1, h2, fun z => absurd (zbeq b1) z⟩
    · obtain ⟨r, t, e1, h9⟩ := zLs h9
      obtain ⟨c, h7, -⟩ := zcell_s h9
      obtain ⟨-, h6⟩ := zB h7
      obtain ⟨o1, h1, h2⟩ := zOp h6
      exact ⟨o1, h1, h2, fun _ => ⟨r, t, _, e1, h9⟩⟩
  obtain ⟨o1, h1, h2, hrecv⟩ := hrc
  obtain ⟨m1, w1⟩ := hI mi 0 d l [] h o1 h1
  -- what the executor goes on with, and what it means
  have hgo : zmo o1.2.2 o.2.2 ∧ (o1.1 = 2 ∨ o1.1 = 0 ∨ o1.1 = 1) ∧
      (o1.1 = 0 → zW G m nx dep ls rest o1.2.2 o) ∧ (o1.1 = 1 → zW G m nx dep ls (o1.2.1 :: rest) o1.2.2 o) ∧
      (o1.1 = 2 → (hs = [] ∧ md.2.2.2.2 = [] ∧ o = (2, o1.2.1, o1.2.2)) ∨ ∃ (pre suf : List (Nat × Nat × Nat × Nat)) (t : Nat × Nat × Nat × Nat) (hd : Nat × Nat × Nat) (l' : List Nat), md.2.2.2.2 = pre ++ t :: suf ∧ (o1.2.1 < 5 ∧ t.1 ≤ pc ∧ pc < t.2.1 ∧ t.2.2.2 ≠ 0 ∧ Cond.classLink md.1.cls t.2.2.2 (zxn o1.2.1) ∈ zTg ∧ Cond.castable (zxn o1.2.1) (zxn o1.2.1) ∈ zTn ∧ zStRow 4 hd.2.1 m t.2.2.1 hd.2.2) ∧ (∀ z ∈ pre, z.2.2.2 ≠ 0 ∧ ∃ x, x < 5 ∧ x ≠ o1.2.1 ∧ Cond.classLink md.1.cls z.2.2.2 (zxn x) ∈ zTg) ∧
        hd.2.1 < ls.length ∧ l'.length = ls.length ∧ l'[hd.2.1]? = some 9 ∧ (∀ (j w : Nat), j ≠ hd.2.1 → l'[j]? = some w → w % 16 ≠ 9 → ls[j]? = some w ∧ (j + 1 = hd.2.1 → (18564 >>> (w % 16)) &&& 1 = 0)) ∧ zW G m hd.2.2 dep l' [] o1.2.2 o) := by
    rcases zBc h2 with ⟨b1, h9⟩ | ⟨b1, h9⟩
    · have b1 : o1.1 = 2 := zbeq b1
      cases hs with
      | nil =>
        have e : (2, o1.2.1, o1.2.2) = o := Option.some.inj h9
        have ht : md.2.2.2.2 = [] := by
          cases hq : md.2.2.2.2 with
          | nil => rfl
          | cons a b => rw [hq] at hh; exact hh.elim
        subst e
        exact ⟨zmo.rf _, Or.inl b1, fun z => by omega, fun z => by omega, fun _ => Or.inl ⟨rfl, ht, rfl⟩⟩
      | cons a b =>
        obtain ⟨pre, suf, t, hd, e1, e2, e3, e4, e5⟩ := zhs_s hh h9
        obtain ⟨g1, l', g2, g3, g4, g5⟩ := zst_z e2
        obtain ⟨k1, k2⟩ := hI m hd.2.2 dep l' [] o1.2.2 o g2
        exact ⟨k1, Or.inl b1, fun z => by omega, fun z => by omega, fun _ => Or.inr ⟨pre, suf, t, hd, l', e1, e4, e5, g1, g3, g4, g5, k2⟩⟩
    · obtain ⟨b2, h9'⟩ := zB h9
      have b2 : o1.1 = rv := zbeq b2
      have nb : o1.1 ≠ 2 := fun z => by rw [z] at b1; cases b1
      rcases zNc h9' with ⟨b3, h9⟩ | ⟨j, b3, h9⟩
      · obtain ⟨k1, k2⟩ := hI m nx dep ls rest o1.2.2 o h9
        exact ⟨k1, Or.inr (Or.inl (by omega)), fun _ => k2, fun z => by omega, fun z => by omega⟩
      · obtain ⟨k1, k2⟩ := hI m nx dep ls (o1.2.1 :: rest) o1.2.2 o h9
        have : j = 0 := by omega
        exact ⟨k1, Or.inr (Or.inr (by omega)), fun z => by omega, fun _ => k2, fun z => by omega⟩
  obtain ⟨m2, hc, k0, k1, k2⟩ := hgo
  refine ⟨m1.tr m2, fun p e R s mid args below meth cc H locs cells slots Q ad lsA vals q1 q2 q3 q4 q5 q6 q7 q8 => ?_⟩
  subst hst
  obtain ⟨xs, ys, rfl, hxs, hys⟩ := q6.split
  have hAs : zall G.2.1 ad as xs.reverse := by have := hxs.rev; rwa [List.reverse_reverse] at this
  obtain ⟨As, hAe⟩ : ∃ As, As = xs.reverse := ⟨_, rfl⟩
  have hxe : xs = As.reverse := by rw [hAe, List.reverse_reverse]
  rw [← hAe] at hAs
  rw [hxe]
  obtain ⟨y1, y2, y3, y4⟩ := id q7
  have z1 := m1.2.1
  have z2 := m1.2.2
  have z3 := m2.2.1
  have z4 := m2.2.2
  obtain ⟨hx, hb, hml, hown, hts, hlk, -, -, htab, htn⟩ := q1.of hm
  have hrun := row p G.1 e R s mid args below meth cc H locs cells slots lsA As ys (zrm d (o1.2.2.2.1 - h.2.1) (o1.2.2.2.2.1 - h.2.2.1)) (zPc G ad as h) (zQc G ad o1) (zXC G ad o1) (o1.2.2.2.1 - h.2.1) (o1.2.2.2.2.1 - h.2.2.1) (zA G) q1 (zMet hG hP hmi hpl w1 hl hloc (fun z => by omega) (fun z => by omega)) rfl rfl (zlr1 hdep y1) (zlr2 hdep y2 hmx2) zPc_blind
    (fun U hU hW => ⟨As, rfl, hAs, ⟨State.WarmedH.trans q2.1 hW, by rw [hU]; exact Nat.le_trans q2.2.1 q3.1, fun q hq => by rw [hU]; exact zold q2 q3 hq⟩, by rw [hU]; exact q4⟩) q5.1 (hsm G.2.1 ad ys hG hys) (by rw [← hAs.1]; exact hna)
    (fun z => by
      obtain ⟨r, t, k, e1, e2⟩ := hrecv z
      subst e1
      obtain ⟨X, As', rfl, r1, -⟩ := hAs.inv
      obtain ⟨b, q, cell, rfl, c1, c2⟩ := zrecv hP q2 q3 q4 r1 (hvi.resolve_left z) e2
      exact ⟨b, As', q, cell, rfl, c1, c2⟩)
    (fun q hq => va_Fw.moved (by
      have : (zfwl.all fun q => decide (q.2.1.cls ≠ "java/lang/invoke/MethodHandle" ∧ q.2.1.cls ≠ "java/lang/invoke/VarHandle")) = true := by decide +kernel
      exact of_decide_eq_true (List.all_eq_true.mp this q hq)) q2.1.alike (hP.2.2.2.2.2.2.2.2.2.1 q hq)) (by omega) (by omega)
  have hroom : ∀ (c' s' : Nat), c' = cells + (o1.2.2.2.1 - h.2.1) → s' = slots + (o1.2.2.2.2.1 - h.2.2.1) → zroom R dep c' s' o1.2.2 o := fun c' s' w1 w2 => ⟨y1, y2, by omega, by omega⟩
  intro T hT X
  rcases hrun T hT X with ⟨v, st₀, t, T', L, h0, X', hL, e1, e2, ⟨ov, ad', hov, g1, g2, g3, g4, g5, g6⟩, st⟩ | ⟨q, st₀, t, T', L, E, ce, h0, X', hL, e1, e2, ⟨rfl, hc2, ad', g1, g2, g6⟩, hce, hcv, hcl, st⟩
  · obtain ⟨-, -, k3⟩ := vx_keep h0 e1 q3 (fun q _ h => h) (fun q h => h) hL g6
    have hv : v = ov := by cases hov; rfl
    subst hv
    have hH' : zHR G.2.1 G.2.2.1 G.2.2.2.1 G.2.2.2.2.heap.size ad' o1.2.2 T'.heap := by rw [e1]; exact g2
    rcases hc with z | z | z
    · exact absurd z g5
    · obtain rfl := g3 z
      obtain ⟨t2, a1, b1⟩ := k0 z p e R s mid args below meth cc T'.heap (locs ++ L) _ _ Q ad' lsA ys q1 q2 k3 hH' (q5.mono g1) (hys.mono g1) (hroom _ _ rfl rfl) (q8.step g1 (by omega) (by omega)) T' rfl X'
      exact ⟨t2, st t2 a1, b1⟩
    · obtain ⟨X1, rfl, r1⟩ := g4 z
      obtain ⟨t2, a1, b1⟩ := k1 z p e R s mid args below meth cc T'.heap (locs ++ L) _ _ Q ad' lsA (X1 :: ys) q1 q2 k3 hH' (q5.mono g1) (zall.cons r1 (hys.mono g1)) (hroom _ _ rfl rfl) (q8.step g1 (by omega) (by omega)) T' rfl X'
      exact ⟨t2, st t2 a1, b1⟩
  · obtain ⟨-, -, k3⟩ := vx_keep h0 e1 q3 (fun q _ h => h) (fun q h => h) hL g6
    have hH' : zHR G.2.1 G.2.2.1 G.2.2.2.1 G.2.2.2.2.heap.size ad' o1.2.2 T'.heap := by rw [e1]; exact g2
    have hvW : vx_W p G.1 e R s mid args below meth cc T'.heap (locs ++ L) (cells + (o1.2.2.2.1 - h.2.1)) (slots + (o1.2.2.2.2.1 - h.2.2.1)) Q (F0 mid pc lsA ys) q := by
      rcases k2 hc2 with ⟨-, ht, rfl⟩ | ⟨pre, suf, tt, hd, l', e3, ⟨f1, f2, f3, f4, f5, f6, f7⟩, e5, g7, g8, g9, g10, hW⟩
      · obtain ⟨Qc, XC, mc', ms', free, rfl, c1, c2, c3, c4⟩ := q8.2.2 rfl
        have c1 : cells + (o1.2.2.2.1 - h.2.1) ≤ mc' := c1
        have c2 : slots + (o1.2.2.2.2.1 - h.2.2.1) ≤ ms' := c2
        exact vx_out (fun x hx => by rw [htab, ht] at hx; cases hx) hlk (by rw [e1]; exact hce) hcv hcl (fun t1 ht1 hal => c4 t1 ad' hal g1 (by rw [ht1]; exact hH') (by rw [ht1]; exact k3.1) (fun q hq hn => by rw [ht1]; exact k3.2.1 q hq hn)) (fun z hz => c3 _ (k3.2.2 z hz)) c1 c2
      · refine vx_catch (E := zxn o1.2.1) (name := zxn o1.2.1) hown (tableOf pre) ⟨tt.1, tt.2.1, tt.2.2.1, tt.2.2.2⟩ (tableOf suf) (by rw [htab, e3]; simp [tableOf]) (fun z hz => ?_) (by simp [covers]; omega) f4 (hts _ f5) (htn _ f6) (by rw [e1]; exact hce) hcv hcl ?_
        · obtain ⟨z0, hz0, rfl⟩ := List.mem_map.mp hz
          obtain ⟨n1, x, n2, n3, n4⟩ := e5 z0 hz0
          exact Or.inr ⟨n1, zxn x, hts _ n4, va_Nc.moved q2.1.alike (hP.2.2.2.2.2.2.2.1 _ (znc_of _ f1 _ n2 (fun z => n3 z.symm)))⟩
        · refine f7 p G.1 e R s mid args below meth cc T'.heap (locs ++ L) _ _ Q lsA (.ref q) [] cc.maxLocals (zfull lsA) q1 (zfull_h q5.1 q5.2.1) (by rw [← q5.2.2.1]; exact g7) (Or.inr ⟨q, rfl⟩) fun ls' hh => ?_
          exact hW p e R s mid args below meth cc T'.heap (locs ++ L) _ _ Q ad' ls' [] q1 q2 k3 hH' ((q5.mono g1).st9 hG (fun j Y => zfull_m) g8 g9 g10 hh) zall.nil (hroom _ _ rfl rfl) (q8.step g1 (by omega) (by omega))
    obtain ⟨t2, a1, b1⟩ := hvW T' rfl X'
    exact ⟨t2, st.trans a1, b1⟩
end Calls3
