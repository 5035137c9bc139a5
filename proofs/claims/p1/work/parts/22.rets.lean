section Rets
variable {Pre : zgl → zctx → Prop} {m pc nx : Nat} {md : zMD}
theorem ok_ret {ms : Nat} {i : Instr} (hm : zM m = some md) (hd : decode md.2.1 pc = .ok (i, 1)) (hi : ∀ k, k < 16 → (ms >>> k) &&& 1 ≠ 0 → zrin k i) : zOK Pre m pc (s_ret ms) := by
  intro G ctx ih hG hN hP hI dep ls st h o ho
  obtain ⟨v, t, rfl, h9⟩ := zLs ho
  obtain ⟨b1, h9⟩ := zmask' h9
  cases t with
  | cons a t => cases h9
  | nil =>
    have e : (1, v, h) = o := Option.some.inj h9
    subst e
    refine ⟨zmo.rf h, fun p e R s mid args below meth cc H locs cells slots Q ad lsA vals q1 q2 q3 q4 q5 q6 q7 q8 => ?_⟩
    obtain ⟨X, vals, rfl, r1, hvs⟩ := q6.inv
    obtain rfl := hvs.inil
    obtain ⟨hx, hb, -⟩ := q1.of hm
    have k := q8.2.1 rfl ad H locs lsA pc X i (zle.rf ad) q4 q3 r1 (hi _ (Nat.mod_lt _ (by decide)) b1) (by rw [hb]; exact hd)
    have e1 : cells + (h.2.1 - h.2.1) = cells := by omega
    have e2 : slots + (h.2.2.1 - h.2.2.1) = slots := by omega
    have k : W p G.1 e R s mid args below meth cc H locs (cells + (h.2.1 - h.2.1)) (slots + (h.2.2.1 - h.2.2.1)) Q (F0 mid pc lsA [X]) := k
    rw [e1, e2] at k
    exact k
theorem ok_rv (hm : zM m = some md) (hd : decode md.2.1 pc = .ok (.return_, 1)) : zOK Pre m pc s_rv := by
  intro G ctx ih hG hN hP hI dep ls st h o ho
  cases st with
  | cons a t => cases ho
  | nil =>
    have e : (0, 9, h) = o := Option.some.inj ho
    subst e
    refine ⟨zmo.rf h, fun p e R s mid args below meth cc H locs cells slots Q ad lsA vals q1 q2 q3 q4 q5 q6 q7 q8 => ?_⟩
    obtain rfl := q6.inil
    obtain ⟨hx, hb, -⟩ := q1.of hm
    have k := q8.1 rfl ad H locs lsA pc (zle.rf ad) q4 q3 (by rw [hb]; exact hd)
    have e1 : cells + (h.2.1 - h.2.1) = cells := by omega
    have e2 : slots + (h.2.2.1 - h.2.2.1) = slots := by omega
    have k : W p G.1 e R s mid args below meth cc H locs (cells + (h.2.1 - h.2.1)) (slots + (h.2.2.1 - h.2.2.1)) Q (F0 mid pc lsA []) := k
    rw [e1, e2] at k
    exact k
theorem zrinI : ∀ k, k < 16 → (12299 >>> k) &&& 1 ≠ 0 → zrin k .ireturn := fun k hk h => Or.inl ⟨(by decide : ∀ k, k < 16 → (12299 >>> k) &&& 1 ≠ 0 → k = 0 ∨ k = 1 ∨ k = 3 ∨ k = 12 ∨ k = 13) k hk h, rfl⟩
theorem zrinL : ∀ k, k < 16 → (2052 >>> k) &&& 1 ≠ 0 → zrin k .lreturn := fun k hk h => Or.inr (Or.inl ⟨(by decide : ∀ k, k < 16 → (2052 >>> k) &&& 1 ≠ 0 → k = 2 ∨ k = 11) k hk h, rfl⟩)
theorem zrinA : ∀ k, k < 16 → (1136 >>> k) &&& 1 ≠ 0 → zrin k .areturn := fun k hk h => Or.inr (Or.inr (Or.inl ⟨(by decide : ∀ k, k < 16 → (1136 >>> k) &&& 1 ≠ 0 → k = 4 ∨ k = 5 ∨ k = 6 ∨ k = 10) k hk h, rfl⟩))
theorem zrinD : ∀ k, k < 16 → (128 >>> k) &&& 1 ≠ 0 → zrin k .dreturn := fun k hk h => Or.inr (Or.inr (Or.inr (Or.inl ⟨(by decide : ∀ k, k < 16 → (128 >>> k) &&& 1 ≠ 0 → k = 7) k hk h, rfl⟩)))
theorem zrinF : ∀ k, k < 16 → (256 >>> k) &&& 1 ≠ 0 → zrin k .freturn := fun k hk h => Or.inr (Or.inr (Or.inr (Or.inr ⟨(by decide : ∀ k, k < 16 → (256 >>> k) &&& 1 ≠ 0 → k = 8) k hk h, rfl⟩)))
end Rets
