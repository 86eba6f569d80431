/-! MORE ROWS -/
section
variable {Θ : Tz} {cc : ByteArray} {nL kc ks : Nat} {own : String} {ret : Option FieldType} {rm : Room} {Q : State → Prop} {σ : St} {pc : Nat} {lv lv' : List (Nat × Value)} {st : List Value}
theorem z_ldcw (C : Zc Θ cc nL own ret rm) {idx : Nat} {v : Int32} (hc : Cond.constant own idx v ∈ TB) (hd : decode cc pc = .ok (.ldc_w idx, 3)) (k : Z Θ nL kc ks Q σ (pc + 3) lv (.int v :: st)) : Z Θ nL kc ks Q σ pc lv st := fun H locs ls hH hS hl => lv_ldcw C.1 C.2.1 C.2.2.2.1 (C.2.2.2.2.1 _ hc) hd (k H locs ls hH hS hl)
end
