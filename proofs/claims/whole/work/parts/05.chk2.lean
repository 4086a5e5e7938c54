def z_okF (e : (Nat × Nat) × (Nat × Nat × Nat)) : Bool := match zCl[e.2.1]? with
  | some r => decide (e.2.2.1 < r.2.2) && z_wd e.2.2.2 (.fieldLink (zO e.1.1) e.1.2 (r.2.1 e.2.2.1).1 (r.2.1 e.2.2.1).2.1 (r.2.1 e.2.2.1).2.2.1)
  | none => decide (e.2.1 = 100) && (if e.2.2.1 = 0 then z_wd e.2.2.2 (.fieldLink (zO e.1.1) e.1.2 "java/lang/String" "value" "[B") else z_wd e.2.2.2 (.fieldLink (zO e.1.1) e.1.2 "java/lang/String" "coder" "B"))
set_option maxRecDepth 100000 in
theorem z_okFt : zFt.all z_okF = true := by decide +kernel
def z_okK (e : (Nat × Nat) × ((Int32 ⊕ Int64) × Nat)) : Bool := match e.2.1 with
  | .inl v => z_wd e.2.2 (.constant (zO e.1.1) e.1.2 v)
  | .inr v => z_wd e.2.2 (.constantLong (zO e.1.1) e.1.2 v)
set_option maxRecDepth 100000 in
theorem z_okKt : zKt.all z_okK = true := by decide +kernel
def z_okL (e : (Nat × Nat) × (Nat × Nat × Nat × Nat)) : Bool := match zCl[e.2.1]? with
  | some r => z_wd e.2.2.1 (.classLink (zO e.1.1) e.1.2 r.1) && z_wd e.2.2.2.1 (.instantiable r.1 r.2.2) && z_wd e.2.2.2.2 (.initialized r.1)
  | none => false
set_option maxRecDepth 100000 in
theorem z_okLt : zLt.all z_okL = true := by decide +kernel
def z_okC (e : (Nat × Nat) × (Nat × Nat × Nat × Nat × Nat × Nat)) : Bool :=
  decide (e.2.2.1 < zMt.length) && z_wd e.2.2.2.2.2.1 (.initialized (zY e.2.2.1).cls) && match e.2.1 with
  | 0 => z_wd e.2.2.2.1 (.methodLink (zO e.1.1) e.1.2 (zY e.2.2.1)) && z_wd e.2.2.2.2.1 (.instanceMethod (zY e.2.2.1)) && z_wd e.2.2.2.2.2.2 (.selects (zY e.2.2.1).cls (zY e.2.2.1) (zY e.2.2.1))
  | 1 => z_wd e.2.2.2.1 (.methodLink (zO e.1.1) e.1.2 (zY e.2.2.1)) && z_wd e.2.2.2.2.1 (.static (zY e.2.2.1))
  | 2 => z_wd e.2.2.2.1 (.methodLink (zO e.1.1) e.1.2 (zY e.2.2.1)) && z_wd e.2.2.2.2.1 (.instanceMethod (zY e.2.2.1)) && decide ((zY e.2.2.1).name = "<init>") && decide (zRt e.2.2.1 = none)
  | _ => decide (lw_tbl[e.2.2.2.1]? = some (.methodLinkNest (zO e.1.1) e.1.2 (zY e.2.2.1) "UntoldFacts")) && z_wd e.2.2.2.2.1 (.static (zY e.2.2.1))
set_option maxRecDepth 100000 in
theorem z_okCt : zCt.all z_okC = true := by decide +kernel
set_option maxRecDepth 100000 in
theorem z_okOt : zOt.all (fun e => z_wd e.2 (.methodLink (zO e.1.1) e.1.2 objectInit)) = true := by decide +kernel
set_option maxRecDepth 100000 in
theorem z_okAt : zAt.all (fun e => z_wd e.2 (.methodLink (zO e.1.1) e.1.2 arraycopyName)) = true := by decide +kernel
