section Refuted
theorem zw_script : (start2.about.heap[0]?).map (fun c => c.slots.toList) = some [.int 18, .int 0, .int 10, .int 0, .int 0] := by decide +kernel
theorem zw_row : (start2.about.heap[10]?).map (fun c => (c.cls, c.vm)) = some (71, .none) := by decide +kernel
theorem zw_cls : (start2.about.vm.classes[71]?).isSome = true := by decide +kernel
theorem zw_size : 0 < start2.about.heap.size := by decide +kernel
/-- THE STATEMENT OF p1 IS FALSE AS IT IS WRITTEN: from the weird start, with the script [18, 0, 10, 0, 0], the law never returns -/
theorem p1_refuted : ¬ Claimed_1_1 := by
  intro hC
  obtain ⟨⟨hL, hW, hadm, -, hcas, hclk, hfr, hfit, hheap, happ, hcalls, hrest, hpre⟩, hn1, -, hn3, -, hn5⟩ := weird_start
  obtain ⟨n, o, hw, -, hend, hpost⟩ := hC launch0 rfl hL hW start2.p0 start2.e0 hadm hcas hclk start2.about ⟨0, 0⟩ start2.args0 start2.belowW hfr hfit hheap happ ⟨hcalls, hrest, hpre⟩
  have hret : limb_1_1.after start2.args0 start2.about o (stepsAlone start2.p0.tables start2.e0 n start2.about) = true := hpost.1
  cases o with
  | threw a => exact Bool.noConfusion hret
  | returned v =>
    have hpre : (Jvm.Cond.and given_1 narrow_1).before start2.args0 start2.about = true := hpre
    have hrest : rest_1_c.before start2.args0 start2.about = true := hrest
    have hs := flat_of_before _ hpre
    have hq := flat_of_before _ hrest
    have harr : (Cond.arrayOf (.arg 0) .int).before start2.args0 start2.about = true := hs _ (by decide +kernel)
    have hlen : (Cond.isInt (.length (.arg 0))).before start2.args0 start2.about = true := hq _ (by decide +kernel)
    have hall : (Cond.all (.arg 0) (.isInt (.elem (.arg 0) (.index 0)))).before start2.args0 start2.about = true := hq _ (by decide +kernel)
    obtain ⟨b, xs, hb, scr, harrAt, hlist, hof, hsmall⟩ := State.ints_of_pre rfl harr hlen hall
    have hb0 : b = 0 := by
      have h : some (Value.ref 0) = some (Value.ref b) := hb
      exact (Value.ref.inj (Option.some.inj h)).symm
    subst hb0
    obtain ⟨hcb, hkn, -, -⟩ := State.arrayAt?_spec harrAt
    have hl2 : scr.slots.toList = [.int 18, .int 0, .int 10, .int 0, .int 0] := by
      have h := zw_script
      rw [hcb] at h
      exact Option.some.inj h
    have hX : va_X 0 5 (fun j => ([18, 0, 10, 0, 0] : List Int32).getD j 0) start2.about start2.about.heap := ⟨scr, hcb, hof, hkn, by rw [← Array.length_toList, hl2]; rfl, fun j hj => by
      rw [← Array.getElem?_toList, hl2]
      have : j = 0 ∨ j = 1 ∨ j = 2 ∨ j = 3 ∨ j = 4 := by omega
      rcases this with rfl | rfl | rfl | rfl | rfl <;> rfl⟩
    obtain ⟨cell, hcell, hce⟩ : ∃ cell, start2.about.heap[10]? = some cell ∧ (cell.cls, cell.vm) = (71, .none) := by
      have h := zw_row
      cases hc : start2.about.heap[10]? with
      | none => rw [hc] at h; cases h
      | some cell => rw [hc] at h; exact ⟨cell, rfl, Option.some.inj h⟩
    have hc1 : cell.cls = 71 := congrArg Prod.fst hce
    have hc2 : cell.vm = .none := congrArg Prod.snd hce
    obtain ⟨kv, hkv⟩ := Option.isSome_iff_exists.mp zw_cls
    refine zlaw_never (b := 0) rfl hadm hcas hclk hfr happ ⟨rfl, ⟨_, hX, rfl, rfl, rfl, rfl, rfl⟩, zw_size, hpre, 10, cell, kv, 57, hn1, hcell, fun q h => (by rw [hc2] at h; cases h), by rw [hc1]; exact hkv, hn3, by rw [hc1]; exact hn5.2⟩ (fun g r h => by cases h) n hw v hend
end Refuted
