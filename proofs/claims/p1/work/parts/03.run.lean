/-- the row at a place of a method -/
def zlk : List (Nat × zS) → Nat → Option zS
  | [], _ => none
  | (p, s) :: t, pc => cond (Nat.beq p pc) (some s) (zlk t pc)
def zlm : List (List (Nat × zS)) → Nat → List (Nat × zS)
  | [], _ => []
  | a :: t, m => match m with
    | 0 => a
    | n + 1 => zlm t n
noncomputable def zfetch (m pc : Nat) : Option zS := zlk (zlm zcode m) pc
noncomputable def zrun (ctx : zctx) (f : Nat) : zI := Nat.rec (motive := fun _ => zI) (fun _ _ _ _ _ _ => none) (fun _ ih m pc dep ls st h => Option.rec (motive := fun _ => zR) none (fun s => s ctx ih m dep ls st h) (zfetch m pc)) f
def zl0 : List Nat := [6, 9, 9, 9, 9, 9, 9, 9, 9, 9]
noncomputable def zok (ctx : zctx) : Bool := match zrun ctx 20000 0 0 12 zl0 [] (0, 0, 0, znil) with
  | some (1, 16, _) => true
  | _ => false
