abbrev rmR12_atom (d : Nat) : Room := { frames := 3 * d + 10, cells := 0, slots := 0, locals := 180 * d + 400 }
abbrev rmR12_every (d : Nat) : Room := { frames := 3 * d + 11, cells := 0, slots := 0, locals := 180 * d + 440 }
abbrev rmR12_some (d : Nat) : Room := { frames := 3 * d + 12, cells := 0, slots := 0, locals := 180 * d + 480 }
abbrev rmR9_search (d : Nat) : Room := { frames := d + 6, cells := 0, slots := 0, locals := 60 * d + 200 }
def zRec9_search (l : Launch) (kd : List KD) (w : Wp) (A_ : St → Int32 → Option St) (d : Nat) : Prop := ∀ {σ : St} {depth_a : Int32} {r : St}, A_ σ depth_a = some r → zM l kd w yX9_search cX9_search 4 none (rmR9_search d) [.ref (w.2.2.1 14), .int depth_a] σ (none, r)
def zRec12_atom (l : Launch) (kd : List KD) (w : Wp) (A_ : St → Option (Bool × St)) (d : Nat) : Prop := ∀ {σ : St} {r : (Bool × St)}, A_ σ = some r → zM l kd w yX12_atom cX12_atom 4 (some .boolean) (rmR12_atom d) [.ref (w.2.2.1 0)] σ (some (.int (b2i r.1)), r.2)
