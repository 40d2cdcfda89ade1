/-- how long an instruction is; 0: a switch -/
def g_len (i : Instr) : Nat := match i with
  | .bipush _ => 2
  | .iload _ => 2
  | .lload _ => 2
  | .aload _ => 2
  | .istore _ => 2
  | .lstore _ => 2
  | .astore _ => 2
  | .ldc _ => 2
  | .newarray _ => 2
  | .sipush _ => 3
  | .ldc2_w _ => 3
  | .getfield _ => 3
  | .putfield _ => 3
  | .getstatic _ => 3
  | .invokevirtual _ => 3
  | .invokespecial _ => 3
  | .invokestatic _ => 3
  | .ifCond _ _ => 3
  | .if_icmp _ _ => 3
  | .ifnull _ => 3
  | .ifnonnull _ => 3
  | .goto _ => 3
  | .iinc _ _ => 3
  | .new _ => 3
  | .multianewarray _ _ => 4
  | .tableswitch _ _ _ _ => 0
  | .lookupswitch _ _ => 0
  | _ => 1
/-- where it may go, there are places -/
def g_jok (pc : Nat) (i : Instr) : Bool := match i with
  | .ifCond _ o => decide (0 ≤ (pc : Int) + o)
  | .if_icmp _ o => decide (0 ≤ (pc : Int) + o)
  | .ifnull o => decide (0 ≤ (pc : Int) + o)
  | .ifnonnull o => decide (0 ≤ (pc : Int) + o)
  | .goto o => decide (0 ≤ (pc : Int) + o)
  | .tableswitch d lo hi os => decide (0 ≤ (pc : Int) + d) && os.toList.all (fun o => decide (0 ≤ (pc : Int) + o)) && decide (hi - lo + 1 = (os.toList.length : Int))
  | .lookupswitch d ps => decide (0 ≤ (pc : Int) + d) && ps.toList.all (fun q => decide (0 ≤ (pc : Int) + q.2)) && (ps.toList.zip (ps.toList.drop 1)).all (fun (a, next) => decide (a.1 < next.1))
  | _ => true
def g_ok1 (c : ByteArray) (q : Nat × Instr) : Bool := match decode c q.1 with
  | .ok (i, n) => decide (i = q.2) && (n == g_len q.2 || g_len q.2 == 0) && g_jok q.1 q.2
  | _ => false
/-- a method's own words stand in the table -/
def g_mwk (id : Nat) : Bool := match g_mw[id]? with
  | some (pc, st, pk, pi, ps) => decide (pc < 9999) && (if st then decide (tables_1[pk]? = some (.static (g_yn id).1)) else decide (tables_1[pk]? = some (.instanceMethod (g_yn id).1))) && decide (tables_1[pi]? = some (.initialized (g_yn id).1.cls)) && (ps == 9999 || (if ps < 10000 then decide (tables_1[ps]? = some (.selects (g_yn id).1.cls (g_yn id).1 (g_yn id).1)) else decide ((k2_sels lw_privs)[ps - 10000]? = some (.selects (g_yn id).1.cls (g_yn id).1 (g_yn id).1))))
  | none => false
def g_flk (o : Nat) (q : Nat × Nat × Nat × Nat) : Bool :=
  if q.2.1 = 20 then decide (tables_1[q.2.2.2]? = some (.fieldLink (g_on o) q.1 "java/lang/String" (if q.2.2.1 = 0 then "value" else "coder") (if q.2.2.1 = 0 then "[B" else "B")))
  else decide (q.2.1 < 13) && decide (q.2.2.1 < (g_cl q.2.1).2.2) && decide (tables_1[q.2.2.2]? = some (.fieldLink (g_on o) q.1 ((g_cl q.2.1).2.1 q.2.2.1).1 ((g_cl q.2.1).2.1 q.2.2.1).2.1 ((g_cl q.2.1).2.1 q.2.2.1).2.2.1))
def g_ilk (o : Nat) (q : Nat × Int32 × Nat) : Bool := decide (tables_1[q.2.2]? = some (.constant (g_on o) q.1 q.2.1))
def g_jlk (o : Nat) (q : Nat × Int64 × Nat) : Bool := decide (tables_1[q.2.2]? = some (.constantLong (g_on o) q.1 q.2.1))
def g_clkk (o : Nat) (q : Nat × Nat × Nat) : Bool := decide (q.2.1 < 13) && decide (tables_1[q.2.2]? = some (.classLink (g_on o) q.1 (g_cl q.2.1).1))
def g_mlk (o : Nat) (q : Nat × Nat × Nat × Nat × Nat) : Bool :=
  if q.2.1 = 3 then decide (tables_1[q.2.2.2.2]? = some (.methodLink (g_on o) q.1 Lib.objectInit))
  else if q.2.1 = 4 then decide (tables_1[q.2.2.2.2]? = some (.methodLink (g_on o) q.1 Lib.Math.max.name))
  else if q.2.1 = 5 then decide (tables_1[q.2.2.2.2]? = some (.methodLink (g_on o) q.1 Lib.Math.min.name))
  else if q.2.1 = 6 then decide (tables_1[q.2.2.2.2]? = some (.methodLink (g_on o) q.1 arraycopyName))
  else if q.2.1 < 3 then decide (q.2.2.1 < 233) && decide (tables_1[q.2.2.2.2]? = some (.methodLink (g_on o) q.1 (g_yn q.2.2.1).1)) && decide ((parseMethodDescriptor (g_yn q.2.2.1).1.desc).map (fun d => d.parameters.length) = some q.2.2.2.1) && ((q.2.1 == 0) == ((g_mw.getD q.2.2.1 (0, false, 0, 0, 0)).2.1)) && ((q.2.1 == 2) == ((g_yn q.2.2.1).1.name == "<init>"))
  else if 10 ≤ q.2.1 ∧ q.2.1 < 13 then decide (q.2.2.1 < 233) && decide (tables_1[q.2.2.2.2]? = some (.methodLinkNest (g_on o) q.1 (g_yn q.2.2.1).1 "TailTrimmer")) && decide ((parseMethodDescriptor (g_yn q.2.2.1).1.desc).map (fun d => d.parameters.length) = some q.2.2.2.1) && ((q.2.1 == 10) == ((g_mw.getD q.2.2.1 (0, false, 0, 0, 0)).2.1)) && ((q.2.1 == 12) == ((g_yn q.2.2.1).1.name == "<init>"))
  else true
/-- the statics that are read: class that declares it, name, descriptor -/
def g_gsn (k : Nat) : String × String × String := if k = 0 then ("TailTrimmer$Tokens", "WORDS", "[J") else if k = 1 then ("java/lang/String", "COMPACT_STRINGS", "Z") else ("jdk/internal/util/Preconditions", "SIOOBE_FORMATTER", "Ljava/util/function/BiFunction;")
def g_gsk (q : Nat × Nat × Nat × Nat) : Bool := decide (q.1 < 17) && decide (q.2.2.2 < 3) && decide (tables_1[q.2.2.1]? = some (.fieldLink (g_on q.1) q.2.1 (g_gsn q.2.2.2).1 (g_gsn q.2.2.2).2.1 (g_gsn q.2.2.2).2.2))
/-- THE TABLES ARE RIGHT: the instructions are those of the code, the words stand in tables_1 (decided in the parts 9x, at the end: they are long) -/
def g_CK : Prop := (∀ id, id < 233 → (g_mt id).2.2.2.2.2.2.all (g_ok1 (g_yn id).2) = true) ∧ (List.range 233).all g_mwk = true ∧ (List.range 17).all (fun o => (g_flT.getD o []).all (g_flk o)) = true ∧ (List.range 17).all (fun o => (g_ilT.getD o []).all (g_ilk o)) = true ∧ (List.range 17).all (fun o => (g_jlT.getD o []).all (g_jlk o)) = true ∧ (List.range 17).all (fun o => (g_clT.getD o []).all (g_clkk o)) = true ∧ (List.range 17).all (fun o => (g_mlT.getD o []).all (g_mlk o)) = true ∧ g_gsT.all g_gsk = true ∧ ∀ id, id < 233 → Cond.code (g_yn id).1 (g_yn id).2 (g_mt id).2.1 (g_mt id).2.2.1 ∈ tables_1
