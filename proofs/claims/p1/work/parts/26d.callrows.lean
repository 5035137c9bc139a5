section CallRows
variable {m pc nx : Nat} {md mdc : zMD}
theorem zgoodl {l : List Cond} (h : ∀ w ∈ l, w ∈ zTg) : GoodIn zTg l := fun w hw => ⟨h w hw, good_of_word (List.mem_filter.mp (h w hw)).2⟩
theorem zgoodc (h : zCode mdc ∈ zTg) : GoodIn zTg (zCode mdc :: zTg) := zgoodl fun w hw => (List.mem_cons.mp hw).elim (fun e => e ▸ h) id
theorem zgoodw {l : List Cond} (h : zCode mdc ∈ zTg) (hl : ∀ w ∈ l, w ∈ zTg) : GoodIn zTg (l ++ (zCode mdc :: zTg)) := zgoodl fun w hw => (List.mem_append.mp hw).elim (hl w) fun h2 => (List.mem_cons.mp h2).elim (fun e => e ▸ h) id
theorem zCode0 (h0 : mdc.2.2.2.2 = []) : zCode mdc :: zTg = Cond.code mdc.1 mdc.2.1 mdc.2.2.1 mdc.2.2.2.1 :: zTg := by unfold zCode; rw [h0]
theorem zCodeH {x : Nat × Nat × Nat × Nat} {t : List (Nat × Nat × Nat × Nat)} (h0 : mdc.2.2.2.2 = x :: t) : zCode mdc :: zTg = Cond.codeWith mdc.1 mdc.2.1 mdc.2.2.1 mdc.2.2.2.1 (x :: t) :: zTg := by unfold zCode; rw [h0]
theorem zstk {b : Nat} {As rest : List Value} : (Value.ref b :: As).reverse ++ rest = As.reverse ++ .ref b :: rest := by simp
theorem zmr {k n : Nat} (h : k ≤ n) : 2 * 0 + k ≤ n := by omega
def zdsc (y : MethodName) (n : Nat) : Prop := y.cls ≠ "java/lang/invoke/MethodHandle" ∧ y.cls ≠ "java/lang/invoke/VarHandle" ∧ (parseMethodDescriptor y.desc).map (fun d => d.parameters.length) = some n
theorem zrow_callV {vi index n : Nat} {q : vw_C} (hm : zM m = some md) (hd : decode md.2.1 pc = .ok (.invokevirtual index, 3)) (hn : pc + 3 = nx) (h0 : mdc.2.2.2.2 = []) (hc : zCode mdc ∈ zTg) (hq : zcls2[vi]? = some q) (hvi : vi ≠ 99) (hlink : Cond.methodLink md.1.cls index mdc.1 ∈ zTg) (hinst : Cond.instanceMethod mdc.1 ∈ zTg) (hsel : Cond.selects q.1 mdc.1 mdc.1 ∈ zTg) (hini : Cond.initialized mdc.1.cls ∈ zTg) (hds : zdsc mdc.1 n) : zCaRow vi (n + 1) m pc nx mdc := by
  subst hn
  intro p l e R s mid args below meth cc H locs cells slots lsA As rest rm Pc Qc XC mc ms free hF hM r1 r2 r3 r4 hbl hPc hsz hcat hlen hrec hfw hc1 hc2
  obtain ⟨b, As', q', cell, rfl, e1, c1, c2, c3, -⟩ := hrec hvi
  cases hq.symm.trans e1
  obtain ⟨hx, hb, hml, hown, hts, -⟩ := hF.of hm
  exact vx_runV (Ts := zTg) (own := md.1.cls) (n := n) (C := q.1) ⟨hx, hb, rfl, hown, hts⟩ hM ⟨callB_of n hts (zgoodc hc) (zCode0 h0) r1 r2 (hts _ hini) (hts _ hlink) hds ⟨r3, r4⟩, hts _ hinst, hts _ hsel⟩ ⟨hbl, ⟨cell, c1, c2, c3⟩, hPc⟩ rfl (by simpa using hlen) hsz zstk (zmr hcat) hd ⟨hc1, hc2⟩
theorem zrow_callVN {vi index n : Nat} {q : vw_C} {host : String} (hm : zM m = some md) (hd : decode md.2.1 pc = .ok (.invokevirtual index, 3)) (hn : pc + 3 = nx) (h0 : mdc.2.2.2.2 = []) (hc : zCode mdc ∈ zTg) (hq : zcls2[vi]? = some q) (hvi : vi ≠ 99) (hlink : Cond.methodLinkNest md.1.cls index mdc.1 host ∈ zTn) (hinst : Cond.instanceMethod mdc.1 ∈ zTg) (hsel : Cond.selects q.1 mdc.1 mdc.1 ∈ zTg) (hini : Cond.initialized mdc.1.cls ∈ zTg) (hds : zdsc mdc.1 n) : zCaRow vi (n + 1) m pc nx mdc := by
  subst hn
  intro p l e R s mid args below meth cc H locs cells slots lsA As rest rm Pc Qc XC mc ms free hF hM r1 r2 r3 r4 hbl hPc hsz hcat hlen hrec hfw hc1 hc2
  obtain ⟨b, As', q', cell, rfl, e1, c1, c2, c3, -⟩ := hrec hvi
  cases hq.symm.trans e1
  obtain ⟨hx, hb, hml, hown, hts, -, -, -, -, htn⟩ := hF.of hm
  exact vx_runVN (Ts := zTg) (own := md.1.cls) (n := n) (C := q.1) ⟨hx, hb, rfl, hown, hts⟩ hM ⟨va_cnB n hts (zgoodc hc) (zCode0 h0) r1 r2 (va_Nw.of rfl (htn _ hlink)) (hts _ hini) hds ⟨r3, r4⟩, hts _ hinst, hts _ hsel⟩ ⟨hbl, ⟨cell, c1, c2, c3⟩, hPc⟩ rfl (by simpa using hlen) hsz zstk (zmr hcat) hd ⟨hc1, hc2⟩
theorem zrow_callS {index n : Nat} (hm : zM m = some md) (hd : decode md.2.1 pc = .ok (.invokestatic index, 3)) (hn : pc + 3 = nx) (h0 : mdc.2.2.2.2 = []) (hc : zCode mdc ∈ zTg) (hlink : Cond.methodLink md.1.cls index mdc.1 ∈ zTg) (hstat : Cond.static mdc.1 ∈ zTg) (hini : Cond.initialized mdc.1.cls ∈ zTg) (hds : zdsc mdc.1 n) : zCaRow 99 n m pc nx mdc := by
  subst hn
  intro p l e R s mid args below meth cc H locs cells slots lsA As rest rm Pc Qc XC mc ms free hF hM r1 r2 r3 r4 hbl hPc hsz hcat hlen hrec hfw hc1 hc2
  obtain ⟨hx, hb, hml, hown, hts, -⟩ := hF.of hm
  exact vx_runS (Ts := zTg) (own := md.1.cls) (n := n) ⟨hx, hb, rfl, hown, hts⟩ hM ⟨callB_of n hts (zgoodc hc) (zCode0 h0) r1 r2 (hts _ hini) (hts _ hlink) hds ⟨r3, r4⟩, hts _ hstat⟩ ⟨hbl, hPc⟩ rfl hlen hsz rfl (zmr hcat) hd ⟨hc1, hc2⟩
theorem zrow_callSN {index n : Nat} {host : String} (hm : zM m = some md) (hd : decode md.2.1 pc = .ok (.invokestatic index, 3)) (hn : pc + 3 = nx) (h0 : mdc.2.2.2.2 = []) (hc : zCode mdc ∈ zTg) (hlink : Cond.methodLinkNest md.1.cls index mdc.1 host ∈ zTn) (hstat : Cond.static mdc.1 ∈ zTg) (hini : Cond.initialized mdc.1.cls ∈ zTg) (hds : zdsc mdc.1 n) : zCaRow 99 n m pc nx mdc := by
  subst hn
  intro p l e R s mid args below meth cc H locs cells slots lsA As rest rm Pc Qc XC mc ms free hF hM r1 r2 r3 r4 hbl hPc hsz hcat hlen hrec hfw hc1 hc2
  obtain ⟨hx, hb, hml, hown, hts, -, -, -, -, htn⟩ := hF.of hm
  exact vx_runSN (Ts := zTg) (own := md.1.cls) (n := n) ⟨hx, hb, rfl, hown, hts⟩ hM ⟨va_cnB n hts (zgoodc hc) (zCode0 h0) r1 r2 (va_Nw.of rfl (htn _ hlink)) (hts _ hini) hds ⟨r3, r4⟩, hts _ hstat, trivial⟩ ⟨hbl, hPc⟩ rfl hlen hsz rfl (zmr hcat) hd ⟨hc1, hc2⟩
/-- a static method with handlers -/
theorem zrow_callSX {index n : Nat} {x : Nat × Nat × Nat × Nat} {t : List (Nat × Nat × Nat × Nat)} (hm : zM m = some md) (hd : decode md.2.1 pc = .ok (.invokestatic index, 3)) (hn : pc + 3 = nx) (h0 : mdc.2.2.2.2 = x :: t) (hc : zCode mdc ∈ zTg) (hlink : Cond.methodLink md.1.cls index mdc.1 ∈ zTg) (hstat : Cond.static mdc.1 ∈ zTg) (hini : Cond.initialized mdc.1.cls ∈ zTg) (hds : zdsc mdc.1 n) : zCaRow 99 n m pc nx mdc := by
  subst hn
  intro p l e R s mid args below meth cc H locs cells slots lsA As rest rm Pc Qc XC mc ms free hF hM r1 r2 r3 r4 hbl hPc hsz hcat hlen hrec hfw hc1 hc2
  obtain ⟨hx, hb, hml, hown, hts, -⟩ := hF.of hm
  exact vx_runSX (Ts := zTg) (own := md.1.cls) (n := n) ⟨hx, hb, rfl, hown, hts⟩ hM (vx_cwSW n hts (zgoodw hc fun w hw => by
    simp only [List.mem_cons, List.not_mem_nil, or_false] at hw
    rcases hw with rfl | rfl | rfl
    · exact hlink
    · exact hstat
    · exact hini) (zCodeH h0) r1 r2 hds ⟨r3, r4⟩) ⟨hbl, hPc⟩ rfl hlen hsz rfl (zmr hcat) hd ⟨hc1, hc2⟩
theorem zcode_i {y : MethodName} {bytes : ByteArray} {maxL : Nat} {ret : Option FieldType} {big : List Cond} (h : ret = none) : Cond.code y bytes maxL ret :: big = Cond.code y bytes maxL none :: big := by rw [h]
theorem zrow_callI {vi index n : Nat} (hm : zM m = some md) (hd : decode md.2.1 pc = .ok (.invokespecial index, 3)) (hn : pc + 3 = nx) (h0 : mdc.2.2.2.2 = []) (hr : mdc.2.2.2.1 = none) (hnm : mdc.1.name = "<init>") (hc : zCode mdc ∈ zTg) (hvi : vi ≠ 99) (hlink : Cond.methodLink md.1.cls index mdc.1 ∈ zTg) (hinst : Cond.instanceMethod mdc.1 ∈ zTg) (hini : Cond.initialized mdc.1.cls ∈ zTg) (hds : zdsc mdc.1 n) : zCaRow vi (n + 1) m pc nx mdc := by
  subst hn
  intro p l e R s mid args below meth cc H locs cells slots lsA As rest rm Pc Qc XC mc ms free hF hM r1 r2 r3 r4 hbl hPc hsz hcat hlen hrec hfw hc1 hc2
  obtain ⟨b, As', q', cell, rfl, e1, c1, c2, c3, -⟩ := hrec hvi
  obtain ⟨hx, hb, hml, hown, hts, -⟩ := hF.of hm
  exact vx_runI (Ts := zTg) (own := md.1.cls) (n := n) ⟨hx, hb, rfl, hown, hts⟩ hM (cwI n hts (zgoodc hc) ((zCode0 h0).trans (zcode_i hr)) r1 r2 (hts _ hini) (hts _ hlink) (hts _ hinst) hnm hds ⟨r3, r4⟩) ⟨hbl, hPc⟩ rfl (by simpa using hlen) hsz zstk (zmr hcat) hd ⟨hc1, hc2⟩
theorem zrow_callIN {vi index n : Nat} {host : String} (hm : zM m = some md) (hd : decode md.2.1 pc = .ok (.invokespecial index, 3)) (hn : pc + 3 = nx) (h0 : mdc.2.2.2.2 = []) (hr : mdc.2.2.2.1 = none) (hnm : mdc.1.name = "<init>") (hc : zCode mdc ∈ zTg) (hvi : vi ≠ 99) (hlink : Cond.methodLinkNest md.1.cls index mdc.1 host ∈ zTn) (hinst : Cond.instanceMethod mdc.1 ∈ zTg) (hini : Cond.initialized mdc.1.cls ∈ zTg) (hds : zdsc mdc.1 n) : zCaRow vi (n + 1) m pc nx mdc := by
  subst hn
  intro p l e R s mid args below meth cc H locs cells slots lsA As rest rm Pc Qc XC mc ms free hF hM r1 r2 r3 r4 hbl hPc hsz hcat hlen hrec hfw hc1 hc2
  obtain ⟨b, As', q', cell, rfl, e1, c1, c2, c3, -⟩ := hrec hvi
  obtain ⟨hx, hb, hml, hown, hts, -, -, -, -, htn⟩ := hF.of hm
  exact vx_runIN (Ts := zTg) (own := md.1.cls) (n := n) ⟨hx, hb, rfl, hown, hts⟩ hM ⟨va_cnB n hts (zgoodc hc) ((zCode0 h0).trans (zcode_i hr)) r1 r2 (va_Nw.of rfl (htn _ hlink)) (hts _ hini) hds ⟨r3, r4⟩, hnm, hts _ hinst⟩ ⟨hbl, hPc⟩ rfl (by simpa using hlen) hsz zstk (zmr hcat) hd ⟨hc1, hc2⟩
/-- super.m(..) -/
theorem zrow_callSU {vi index n : Nat} {q : vw_C} (hm : zM m = some md) (hd : decode md.2.1 pc = .ok (.invokespecial index, 3)) (hn : pc + 3 = nx) (h0 : mdc.2.2.2.2 = []) (hnm : mdc.1.name ≠ "<init>") (hc : zCode mdc ∈ zTg) (hq : zcls2[vi]? = some q) (hvi : vi ≠ 99) (hlink : Cond.methodLink md.1.cls index mdc.1 ∈ zTg) (hsame : Cond.sameMethod mdc.1.cls mdc.1.cls mdc.1.name mdc.1.desc ∈ zTg) (hsup : Cond.superclass md.1.cls mdc.1.cls ∈ zTg) (hinst : Cond.instanceMethod mdc.1 ∈ zTg) (hini : Cond.initialized mdc.1.cls ∈ zTg) (hds : (parseMethodDescriptor mdc.1.desc).map (fun d => d.parameters.length) = some n) : zCaRow vi (n + 1) m pc nx mdc := by
  subst hn
  intro p l e R s mid args below meth cc H locs cells slots lsA As rest rm Pc Qc XC mc ms free hF hM r1 r2 r3 r4 hbl hPc hsz hcat hlen hrec hfw hc1 hc2
  obtain ⟨b, As', q', cell, rfl, e1, c1, c2, c3, cC, c4⟩ := hrec hvi
  cases hq.symm.trans e1
  obtain ⟨hx, hb, hml, hown, hts, -⟩ := hF.of hm
  exact vx_runSU (Ts := zTg) (own := md.1.cls) (n := n) (C := q.1) c4 ⟨hx, hb, rfl, hown, hts⟩ hM (va_cwSU n hts (zgoodw hc fun w hw => by
    simp only [List.mem_cons, List.not_mem_nil, or_false] at hw
    rcases hw with rfl | rfl | rfl | rfl | rfl
    · exact hlink
    · exact hsame
    · exact hsup
    · exact hinst
    · exact hini) (zCode0 h0) r1 r2 ⟨hnm, hds⟩ ⟨r3, r4⟩) ⟨hbl, ⟨cell, c1, c2, c3⟩, hPc⟩ rfl (by simpa using hlen) hsz zstk (zmr hcat) hd ⟨hc1, hc2⟩
/-- by an interface -/
theorem zrow_callF {vi index count n : Nat} {q : vw_C} {x : MethodName} (hm : zM m = some md) (hd : decode md.2.1 pc = .ok (.invokeinterface index count, 5)) (hn : pc + 5 = nx) (h0 : mdc.2.2.2.2 = []) (hc : zCode mdc ∈ zTg) (hq : zcls2[vi]? = some q) (hvi : vi ≠ 99) (hfl : (q.1, x, mdc.1) ∈ zfwl) (hlink : Cond.methodLink md.1.cls index x ∈ zTg) (hsel : Cond.selects q.1 x mdc.1 ∈ zTg) (hinst : Cond.instanceMethod mdc.1 ∈ zTg) (hini : Cond.initialized mdc.1.cls ∈ zTg) (hds : zdsc x n) : zCaRow vi (n + 1) m pc nx mdc := by
  subst hn
  intro p l e R s mid args below meth cc H locs cells slots lsA As rest rm Pc Qc XC mc ms free hF hM r1 r2 r3 r4 hbl hPc hsz hcat hlen hrec hfw hc1 hc2
  obtain ⟨b, As', q', cell, rfl, e1, c1, c2, c3, cC, c4⟩ := hrec hvi
  cases hq.symm.trans e1
  obtain ⟨hx, hb, hml, hown, hts, -⟩ := hF.of hm
  exact vx_runF (Ts := zTg) (own := md.1.cls) (n := n) (C := q.1) c4 ⟨hx, hb, rfl, hown, hts⟩ hM (va_cwF n hts (zgoodw hc fun w hw => by
    simp only [List.mem_cons, List.not_mem_nil, or_false] at hw
    rcases hw with rfl | rfl | rfl | rfl
    · exact hlink
    · exact hsel
    · exact hinst
    · exact hini) (zCode0 h0) r1 r2 (hfw _ hfl) hds ⟨r3, r4⟩) ⟨hbl, ⟨cell, c1, c2, c3⟩, hPc⟩ rfl (by simpa using hlen) hsz zstk (zmr hcat) hd ⟨hc1, hc2⟩
end CallRows
