/-! ===== calls ===== -/
def xMetC (o : Nat) (q : Nat × (Nat × Nat × Nat) × Nat) : Bool := match q.2.1.1 with
  | 0 => decide (xOwn q.2.1.2.1 < 13) && decide (q.2.1.2.1 < 270) && xG1 q.2.2 (Jvm.Cond.methodLink (xCls o) q.1 (xNm q.2.1.2.1)) && xG1 (xMsP.getD q.2.1.2.1 (0, 0, 0, 0)).2.2.1 (Jvm.Cond.instanceMethod (xNm q.2.1.2.1)) && xG1 (xMsP.getD q.2.1.2.1 (0, 0, 0, 0)).2.2.2 (Jvm.Cond.selects (xNm q.2.1.2.1).cls (xNm q.2.1.2.1) (xNm q.2.1.2.1)) && decide ((parseMethodDescriptor (xNm q.2.1.2.1).desc).map (fun d => d.parameters.length) = some q.2.1.2.2) && !(xIsIn q.2.1.2.1)
  | 1 => decide (q.2.1.2.1 < 270) && xG1 q.2.2 (Jvm.Cond.methodLink (xCls o) q.1 (xNm q.2.1.2.1)) && xG1 (xMsP.getD q.2.1.2.1 (0, 0, 0, 0)).2.2.1 (Jvm.Cond.static (xNm q.2.1.2.1)) && decide ((parseMethodDescriptor (xNm q.2.1.2.1).desc).map (fun d => d.parameters.length) = some q.2.1.2.2) && !(xIsIn q.2.1.2.1)
  | 2 => decide (q.2.1.2.1 < 270) && xG1 q.2.2 (Jvm.Cond.methodLink (xCls o) q.1 (xNm q.2.1.2.1)) && xG1 (xMsP.getD q.2.1.2.1 (0, 0, 0, 0)).2.2.1 (Jvm.Cond.instanceMethod (xNm q.2.1.2.1)) && decide ((parseMethodDescriptor (xNm q.2.1.2.1).desc).map (fun d => d.parameters.length) = some q.2.1.2.2) && xIsIn q.2.1.2.1 && decide (xRet q.2.1.2.1 = none)
  | 3 => decide (q.2.1.2.1 < 270) && xW0 q.2.2 (Jvm.Cond.methodLinkNest (xCls o) q.1 (xNm q.2.1.2.1) "FelledHasLost") && xG1 (xMsP.getD q.2.1.2.1 (0, 0, 0, 0)).2.2.1 (Jvm.Cond.instanceMethod (xNm q.2.1.2.1)) && decide ((parseMethodDescriptor (xNm q.2.1.2.1).desc).map (fun d => d.parameters.length) = some q.2.1.2.2) && xIsIn q.2.1.2.1 && decide (xRet q.2.1.2.1 = none)
  | 10 => xG1 q.2.2 (Jvm.Cond.methodLink (xCls o) q.1 Lib.objectInit)
  | 11 => xG1 q.2.2 (Jvm.Cond.methodLink (xCls o) q.1 Lib.Math.max.name)
  | 12 => xG1 q.2.2 (Jvm.Cond.methodLink (xCls o) q.1 Lib.Math.min.name)
  | 13 => xG1 q.2.2 (Jvm.Cond.methodLink (xCls o) q.1 arraycopyName)
  | _ => decide (q.2.1.1 ≠ 4) && decide (q.2.1.1 ≠ 5)
set_option maxRecDepth 100000 in
theorem xMetC_ok : (List.range 16).all (fun o => (xMetL.getD o []).all (xMetC o)) = true := by decide +kernel
def xLibW (k : Nat) : Jvm.Cond := match k with
  | 0 => .instanceMethod Lib.objectInit
  | 1 => .code Lib.objectInit ⟨#[0xb1]⟩ 1 none
  | 2 => .static Lib.Math.max.name
  | 3 => .static Lib.Math.min.name
  | 4 => .initialized "java/lang/Math"
  | 5 => .code Lib.Math.max.name Lib.Math.max.code 2 (some .int)
  | 6 => .code Lib.Math.min.name Lib.Math.min.code 2 (some .int)
  | 7 => .native arraycopyName
  | 8 => .static arraycopyName
  | _ => .initialized "java/lang/System"
theorem xLibC_ok : (List.range 10).all (fun k => xG1 (xLibP.getD k 0) (xLibW k)) = true := by decide +kernel
