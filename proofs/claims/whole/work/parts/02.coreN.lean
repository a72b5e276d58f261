section CoreN
variable {G : Gx} {l : Launch} {cc : ByteArray} {nL : Nat} {own : String} {ret : Option FieldType} {nm : String} {fr lc : Nat} {α : Type} {Q : Cx → Mem → α → Mem → State → Prop} {M M' : Mem} {pc pc' : Nat} {lv lv' : List (Nat × Value)} {st st' : List Value}
theorem J_callIv {y : MethodName} {cc' : ByteArray} {maxL' fr' lc' idx b : Nat} {As rest : List Value} {kc : Option (Unit × Mem)} {k : Unit → Mem → Option (α × Mem)} (hC : Con G l y cc' maxL' none fr' lc' (fun _ : Unit => none) (.ref (adr G b) :: As) M kc) (hm : MOk y cc' maxL' none As.length) (hy : y.name = "<init>") (w2 : Cond.methodLink own idx y ∈ lwT) (w3 : Cond.instanceMethod y ∈ lwT) (hR : fr' + 1 ≤ fr ∧ 8 + (maxL' + 11) + lc' ≤ lc) (hst : st = As.reverse ++ .ref (adr G b) :: rest) (hrm : (rest.map fun v => v.category).sum ≤ 8) (hdg : decode cc pc = .ok (.invokespecial idx, 3)) (k1 : ∀ r M1, J G l cc nL own ret nm fr lc Q (pc + 3) lv rest M1 (k r M1)) : J G l cc nL own ret nm fr lc Q pc lv st M (bd kc k) := J_callI hC hm hy w2 w3 hR hst hrm hdg k1
theorem J_callINv {host : String} {y : MethodName} {cc' : ByteArray} {maxL' fr' lc' idx b : Nat} {As rest : List Value} {kc : Option (Unit × Mem)} {k : Unit → Mem → Option (α × Mem)} (hC : Con G l y cc' maxL' none fr' lc' (fun _ : Unit => none) (.ref (adr G b) :: As) M kc) (hm : MOk y cc' maxL' none As.length) (hy : y.name = "<init>") (w2 : (own, idx, y, host) ∈ lwN) (w3 : Cond.instanceMethod y ∈ lwT) (hR : fr' + 1 ≤ fr ∧ 8 + (maxL' + 11) + lc' ≤ lc) (hst : st = As.reverse ++ .ref (adr G b) :: rest) (hrm : (rest.map fun v => v.category).sum ≤ 8) (hdg : decode cc pc = .ok (.invokespecial idx, 3)) (k1 : ∀ r M1, J G l cc nL own ret nm fr lc Q (pc + 3) lv rest M1 (k r M1)) : J G l cc nL own ret nm fr lc Q pc lv st M (bd kc k) := J_callIN hC hm hy w2 w3 hR hst hrm hdg k1
end CoreN
theorem nz_int (G : Gx) (M : Mem) (c n : Nat) (h1 : mI M c = fun _ => 0) (h2 : mJ M c = fun _ => 0) : vp_cell (G.2.1 .int) (n, rowOf G M c .int) = arrV (G.2.1 .int) n (fun _ => defaultValue .int) := by
  show vp_cell _ (n, .inl (mI M c)) = _
  rw [h1, vp_cell_i]
  rfl
theorem nz_byte (G : Gx) (M : Mem) (c n : Nat) (h1 : mI M c = fun _ => 0) (h2 : mJ M c = fun _ => 0) : vp_cell (G.2.1 .byte) (n, rowOf G M c .byte) = arrV (G.2.1 .byte) n (fun _ => defaultValue .byte) := by
  show vp_cell _ (n, .inl (mI M c)) = _
  rw [h1, vp_cell_i]
  rfl
theorem nz_boolean (G : Gx) (M : Mem) (c n : Nat) (h1 : mI M c = fun _ => 0) (h2 : mJ M c = fun _ => 0) : vp_cell (G.2.1 .boolean) (n, rowOf G M c .boolean) = arrV (G.2.1 .boolean) n (fun _ => defaultValue .boolean) := by
  show vp_cell _ (n, .inl (mI M c)) = _
  rw [h1, vp_cell_i]
  rfl
theorem nz_long (G : Gx) (M : Mem) (c n : Nat) (h1 : mI M c = fun _ => 0) (h2 : mJ M c = fun _ => 0) : vp_cell (G.2.1 .long) (n, rowOf G M c .long) = arrV (G.2.1 .long) n (fun _ => defaultValue .long) := by
  show vp_cell _ (n, .inr (.inl (mJ M c))) = _
  rw [h2, vp_cell_l]
  rfl
