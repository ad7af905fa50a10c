def stOf (m : Nat) : Bool := (mt m).2.2.2.2.2.2.2.2.2.2.1
def inOf (m : Nat) : Bool := (mt m).2.2.2.2.2.2.2.2.2.2.2.1
def npOf (m : Nat) : Nat := (mt m).2.2.2.2.2.2.2.2.2.2.2.2
def dkI (m pc : Nat) (i : Jvm.ClassFile.Instr) (n : Nat) : Bool := decide (decode (byOf m) pc = .ok (i, n))
def wdI (i : Nat) (w : Cond) : Bool := decide (lw_tbl[i]? = some w)
def tF (c : Nat) : u_T := match c with
  | 0 => TX0
  | 1 => TX1
  | 2 => TX2
  | 3 => TX3
  | 4 => TX4
  | 5 => TX5
  | 6 => TX6
  | 7 => TX7
  | 8 => TX8
  | 9 => TX9
  | 10 => TX10
  | _ => TX11
def tR (c : Nat) : String := match c with
  | 0 => RX0
  | 1 => RX1
  | 2 => RX2
  | 3 => RX3
  | 4 => RX4
  | 5 => RX5
  | 6 => RX6
  | 7 => RX7
  | 8 => RX8
  | 9 => RX9
  | 10 => RX10
  | _ => RX11
def tTy (c : Nat) : Nat → FieldType := match c with
  | 0 => tyX0
  | 1 => tyX1
  | 2 => tyX2
  | 3 => tyX3
  | 4 => tyX4
  | 5 => tyX5
  | 6 => tyX6
  | 7 => tyX7
  | 8 => tyX8
  | 9 => tyX9
  | 10 => tyX10
  | _ => tyX11
/-- what a field holds: 0 a number, 1 a boolean, 2 a reference, 3 a long -/
def kOf (t : FieldType) : Nat := match t with
  | .int => 0
  | .boolean => 1
  | .long => 3
  | _ => 2
def isRf (t : FieldType) : Bool := match t with
  | .object _ => true
  | .array _ => true
  | _ => false
def ifc (a : Nat) : Jvm.ClassFile.Cond := match a with
  | 0 => .eq
  | 1 => .ne
  | 2 => .lt
  | 3 => .ge
  | 4 => .gt
  | _ => .le
def swT (x : Int) (w : List (Int × Nat)) (d : Nat) : Nat := match w with
  | [] => d
  | (k, t) :: w => if x = k then t else swT x w d
def okSw (pc b : Nat) (w : List (Int × Nat)) (len : Nat) (r : Except Jvm.ClassFile.DecodeError (Jvm.ClassFile.Instr × Nat)) : Bool := match r with
  | .ok (.tableswitch d lo hi offs, n) => decide (n = len) && (decide ((pc : Int) + d = b) && (decide (hi - lo + 1 = offs.size) && (w.all (fun q => decide (lo ≤ q.1 ∧ q.1 ≤ hi)) && (List.range offs.size).all (fun i => decide ((pc : Int) + offs.getD i 0 = swT (lo + i) w b)))))
  | .ok (.lookupswitch d ps, n) => decide (n = len) && (decide ((pc : Int) + d = b) && ((ps.toList.zip (ps.toList.drop 1)).all (fun (a, next) => decide (a.1 < next.1)) && decide (ps.toList.map (fun q => (q.1, (pc : Int) + q.2)) = w.map (fun q => (q.1, (q.2 : Int))))))
  | _ => false
def okFld (m pc cp wi c : Nat) (k : Int) (i : Jvm.ClassFile.Instr) (ts : List Nat) (fin : Bool) : Bool :=
  dkI m pc i 3 && (decide (10 ≤ c ∧ c < 22) && (decide (0 ≤ k ∧ k.toNat < nfOf (c - 10)) && (wdI wi (.fieldLink (nmOf m).cls cp (tF (c - 10) k.toNat).1 (tF (c - 10) k.toNat).2.1 (tF (c - 10) k.toNat).2.2.1) && (decide (kOf (tTy (c - 10) k.toNat) ∈ ts) && decide ((tF (c - 10) k.toNat).2.2.2 = fin)))))
def okCall (m pc cp wi a b kd rc : Nat) : Bool := decide (a < 231) && (decide (1 ≤ b ∨ rc = 0) && (decide (rc = 0 ∧ 1 ≤ kd ∧ kd ≤ 2 ∨ rc = 1 ∧ kd = 0 ∧ (nmOf a).cls = "java/lang/String" ∨ 10 ≤ rc ∧ rc < 22 ∧ (kd = 0 ∨ 3 ≤ kd) ∧ (nmOf a).cls = tR (rc - 10)) && match kd with
  | 0 => dkI m pc (.invokevirtual cp) 3 && (wdI wi (.methodLink (nmOf m).cls cp (nmOf a)) && (decide (b = npOf a + 1) && (!stOf a && !inOf a)))
  | 1 => dkI m pc (.invokestatic cp) 3 && (wdI wi (.methodLink (nmOf m).cls cp (nmOf a)) && (decide (b = npOf a) && stOf a))
  | 2 => dkI m pc (.invokestatic cp) 3 && (wdI wi (.methodLinkNest (nmOf m).cls cp (nmOf a) RX10) && (decide (b = npOf a) && stOf a))
  | 3 => dkI m pc (.invokespecial cp) 3 && (wdI wi (.methodLink (nmOf m).cls cp (nmOf a)) && (decide (b = npOf a + 1) && (!stOf a && inOf a)))
  | 4 => dkI m pc (.invokespecial cp) 3 && (wdI wi (.methodLinkNest (nmOf m).cls cp (nmOf a) RX10) && (decide (b = npOf a + 1) && (!stOf a && inOf a)))
  | _ => false))
def okOp (m pc len cp wi : Nat) (op : Op) : Bool := match op with
  | (c, a, b, y, z, w) => match c with
    | 0 => decide (-2147483648 ≤ z ∧ z ≤ 2147483647) && match b with
      | 0 => dkI m pc (.iconst z) 1 && decide (len = 1)
      | 1 => dkI m pc (.bipush z) 2 && (decide (len = 2) && decide ((Int8.ofInt z).toInt32 = Int32.ofInt z))
      | 2 => dkI m pc (.sipush z) 3 && (decide (len = 3) && decide ((Int16.ofInt z).toInt32 = Int32.ofInt z))
      | 3 => dkI m pc (.ldc cp) 2 && (decide (len = 2) && wdI wi (.constant (nmOf m).cls cp (Int32.ofInt z)))
      | _ => dkI m pc (.ldc_w cp) 3 && (decide (len = 3) && wdI wi (.constant (nmOf m).cls cp (Int32.ofInt z)))
    | 1 => decide (-9223372036854775808 ≤ z ∧ z ≤ 9223372036854775807) && match b with
      | 0 => dkI m pc (.lconst (Fin.ofNat 2 z.toNat)) 1 && (decide (len = 1) && decide (0 ≤ z ∧ z < 2))
      | _ => dkI m pc (.ldc2_w cp) 3 && (decide (len = 3) && wdI wi (.constantLong (nmOf m).cls cp (Int64.ofInt z)))
    | 2 => match y with
      | 0 => decide (len = 1) && (decide (a < 4) && match b with
        | 0 => dkI m pc (.iload_n (Fin.ofNat 4 a)) 1
        | 1 => dkI m pc (.lload_n (Fin.ofNat 4 a)) 1
        | 2 => dkI m pc (.aload_n (Fin.ofNat 4 a)) 1
        | _ => false)
      | _ => decide (len = 2) && match b with
        | 0 => dkI m pc (.iload a) 2
        | 1 => dkI m pc (.lload a) 2
        | 2 => dkI m pc (.aload a) 2
        | _ => false
    | 3 => decide (a - 1 ∉ LGo m ∨ a = 0) && match y with
      | 0 => decide (len = 1) && (decide (a < 4) && match b with
        | 0 => dkI m pc (.istore_n (Fin.ofNat 4 a)) 1
        | 2 => dkI m pc (.astore_n (Fin.ofNat 4 a)) 1
        | _ => false)
      | _ => decide (len = 2) && match b with
        | 0 => dkI m pc (.istore a) 2
        | 2 => dkI m pc (.astore a) 2
        | _ => false
    | 5 => decide (a - 1 ∉ LGo m ∨ a = 0) && (dkI m pc (.iinc a z) 3 && decide (len = 3))
    | 6 => dkI m pc .iadd 1 && decide (len = 1)
    | 7 => dkI m pc .isub 1 && decide (len = 1)
    | 8 => dkI m pc .imul 1 && decide (len = 1)
    | 9 => dkI m pc .idiv 1 && decide (len = 1)
    | 10 => dkI m pc .irem 1 && decide (len = 1)
    | 11 => dkI m pc .iadd 1 && decide (len = 1)
    | 12 => dkI m pc .isub 1 && decide (len = 1)
    | 13 => dkI m pc .imul 1 && decide (len = 1)
    | 14 => dkI m pc .idiv 1 && decide (len = 1)
    | 15 => dkI m pc .iand 1 && decide (len = 1)
    | 16 => dkI m pc .ior 1 && decide (len = 1)
    | 17 => dkI m pc .ishl 1 && decide (len = 1)
    | 18 => dkI m pc .ishr 1 && decide (len = 1)
    | 19 => dkI m pc .iushr 1 && decide (len = 1)
    | 20 => dkI m pc .ineg 1 && decide (len = 1)
    | 21 => dkI m pc .i2b 1 && decide (len = 1)
    | 22 => dkI m pc .i2c 1 && decide (len = 1)
    | 23 => dkI m pc .i2l 1 && decide (len = 1)
    | 24 => dkI m pc .l2i 1 && decide (len = 1)
    | 25 => dkI m pc .ladd 1 && decide (len = 1)
    | 26 => dkI m pc .lsub 1 && decide (len = 1)
    | 27 => dkI m pc .lmul 1 && decide (len = 1)
    | 28 => dkI m pc .ldiv 1 && decide (len = 1)
    | 29 => dkI m pc .lor 1 && decide (len = 1)
    | 30 => dkI m pc .lshl 1 && decide (len = 1)
    | 31 => dkI m pc .lcmp 1 && decide (len = 1)
    | 87 => dkI m pc .lmul 1 && decide (len = 1)
    | 88 => dkI m pc .ladd 1 && decide (len = 1)
    | 89 => dkI m pc .lsub 1 && decide (len = 1)
    | 32 => dkI m pc .dup 1 && decide (len = 1)
    | 33 => dkI m pc .dup2 1 && decide (len = 1)
    | 34 => dkI m pc .pop 1 && decide (len = 1)
    | 35 => okFld m pc cp wi a y (.getfield cp) [0, 1] (tF (a - 10) y.toNat).2.2.2 && decide (len = 3)
    | 36 => okFld m pc cp wi a y (.getfield cp) [2] (tF (a - 10) y.toNat).2.2.2 && decide (len = 3)
    | 37 => okFld m pc cp wi a y (.getfield cp) [3] (tF (a - 10) y.toNat).2.2.2 && decide (len = 3)
    | 38 => okFld m pc cp wi a y (.putfield cp) [0] false && decide (len = 3)
    | 39 => okFld m pc cp wi a y (.putfield cp) [1] false && decide (len = 3)
    | 40 => okFld m pc cp wi a y (.putfield cp) [2] false && (decide (len = 3) && isRf (tTy (a - 10) y.toNat))
    | 41 => okFld m pc cp wi a y (.putfield cp) [3] false && decide (len = 3)
    | 44 => okFld m pc cp wi a y (.putfield cp) [2] true && (decide (len = 3) && (isRf (tTy (a - 10) y.toNat) && (inOf m && decide ((tF (a - 10) y.toNat).1 = (nmOf m).cls))))
    | 46 => dkI m pc .arraylength 1 && (decide (len = 1) && decide (a < 6))
    | 47 => decide (len = 1) && match a with
      | 0 => dkI m pc .iaload 1
      | 1 => dkI m pc .baload 1
      | 2 => dkI m pc .baload 1
      | _ => false
    | 50 => dkI m pc .laload 1 && decide (len = 1)
    | 51 => dkI m pc .aaload 1 && (decide (len = 1) && decide (a = 4 ∨ a = 5))
    | 53 => dkI m pc .iastore 1 && decide (len = 1)
    | 54 => dkI m pc .bastore 1 && decide (len = 1)
    | 55 => dkI m pc .bastore 1 && decide (len = 1)
    | 56 => dkI m pc .lastore 1 && decide (len = 1)
    | 57 => dkI m pc .aastore 1 && decide (len = 1)
    | 58 => dkI m pc (.new cp) 3 && (decide (len = 3) && (decide (a < 12) && wdI wi (.classLink (nmOf m).cls cp (tR a))))
    | 59 => decide (len = 2) && match a with
      | 0 => dkI m pc (.newarray .int) 2
      | 1 => dkI m pc (.newarray .byte) 2
      | 2 => dkI m pc (.newarray .boolean) 2
      | 3 => dkI m pc (.newarray .long) 2
      | _ => false
    | 60 => dkI m pc (.anewarray cp) 3 && (decide (len = 3) && wdI wi (.classLink (nmOf m).cls cp RX1))
    | 61 => dkI m pc (.multianewarray cp 2) 4 && (decide (len = 4) && wdI wi (.classLink (nmOf m).cls cp "[[I"))
    | 62 => dkI m pc (.goto ((b : Int) - pc)) 3
    | 63 => dkI m pc (.ifCond (ifc a) ((b : Int) - pc)) 3 && (decide (len = 3) && decide (a < 6))
    | 64 => dkI m pc (.if_icmp (ifc a) ((b : Int) - pc)) 3 && (decide (len = 3) && decide (a < 6))
    | 65 => okSw pc b w len (decode (byOf m) pc)
    | 66 => okCall m pc cp wi a b y.toNat z.toNat && (decide (len = 3) && (!decide (rtOf a = none) && (decide (MCo a = 0) && decide (MSo a = 0))))
    | 67 => okCall m pc cp wi a b y.toNat z.toNat && (decide (len = 3) && (decide (rtOf a = none) && (decide (MCo a = 0) && decide (MSo a = 0))))
    | 86 => okCall m pc cp wi a b 4 (z.toNat % 100) && (decide (len = 3) && (decide (rtOf a = none) && (decide (MCo a = z.toNat / 100) && decide (MSo a = y.toNat))))
    | 90 => okCall m pc cp wi a b 3 (z.toNat % 100) && (decide (len = 3) && (decide (rtOf a = none) && (decide (MCo a = z.toNat / 100) && decide (MSo a = y.toNat))))
    | 68 => dkI m pc (.invokestatic cp) 3 && (decide (len = 3) && wdI wi (.methodLink (nmOf m).cls cp Lib.Math.min.name))
    | 69 => dkI m pc (.invokestatic cp) 3 && (decide (len = 3) && wdI wi (.methodLink (nmOf m).cls cp Lib.Math.max.name))
    | 70 => dkI m pc (.invokestatic cp) 3 && (decide (len = 3) && wdI wi (.methodLink (nmOf m).cls cp Lib.Math.abs.name))
    | 71 => dkI m pc (.invokestatic cp) 3 && (decide (len = 3) && wdI wi (.methodLink (nmOf m).cls cp arraycopyName))
    | 72 => dkI m pc .ireturn 1 && decide (rtOf m = some .int)
    | 73 => dkI m pc .ireturn 1 && ((decide (rtOf m = some .boolean) && decide (y = 0 ∧ z = 1)) || ((decide (rtOf m = some .char) && decide (y = 0 ∧ z = 65535)) || (decide (rtOf m = some .byte) && decide (y = -128 ∧ z = 127))))
    | 74 => dkI m pc .return_ 1 && decide (rtOf m = none)
    | 75 => dkI m pc .areturn 1 && decide (rtOf m = some (.object RX1))
    | 76 => dkI m pc (.ldc cp) 2 && (decide (len = 2) && decide ((nmOf m).cls = RX8 ∧ (z = 0 ∧ cp = 82 ∨ z = 1 ∧ cp = 67)))
    | 77 => dkI m pc (.getfield cp) 3 && (decide (len = 3) && wdI wi (.fieldLink (nmOf m).cls cp "java/lang/String" "value" "[B"))
    | 78 => dkI m pc (.getfield cp) 3 && (decide (len = 3) && wdI wi (.fieldLink (nmOf m).cls cp "java/lang/String" "coder" "B"))
    | 79 => dkI m pc (.getstatic cp) 3 && (decide (len = 3) && (decide (z = 1) && wdI wi (.fieldLink (nmOf m).cls cp "java/lang/String" "COMPACT_STRINGS" "Z")))
    | 83 => dkI m pc (.getstatic cp) 3 && (decide (len = 3) && wdI wi (.fieldLink (nmOf m).cls cp "jdk/internal/util/Preconditions" "SIOOBE_FORMATTER" "Ljava/util/function/BiFunction;"))
    | 84 => dkI m pc .arraylength 1 && decide (len = 1)
    | 85 => dkI m pc .baload 1 && decide (len = 1)
    | 80 => dkI m pc .iaload 1 && decide (len = 1)
    | 81 => dkI m pc .arraylength 1 && decide (len = 1)
    | 82 => dkI m pc (.invokespecial cp) 3 && (decide (len = 3) && wdI wi (.methodLink (nmOf m).cls cp objectInit))
    | _ => true
def okE (m : Nat) (q : Nat × En1) : Bool := okOp m q.1 q.2.1 q.2.2.1 q.2.2.2.1 q.2.2.2.2
def okM (m : Nat) : Bool := wdI (mt m).2.2.2.2.2.2.1 (.code (nmOf m) (byOf m) (NLo m) (rtOf m)) && (wdI (mt m).2.2.2.2.2.2.2.1 (.initialized (nmOf m).cls) && (wdI (mt m).2.2.2.2.2.2.2.2.1 (if stOf m then .static (nmOf m) else .instanceMethod (nmOf m)) && ((stOf m || (inOf m || wdI (mt m).2.2.2.2.2.2.2.2.2.1 (.selects (nmOf m).cls (nmOf m) (nmOf m)))) && (decide ((parseMethodDescriptor (nmOf m).desc).map (fun d => d.parameters.length) = some (npOf m)) && (decide ((nmOf m).cls ≠ "java/lang/invoke/MethodHandle" ∧ (nmOf m).cls ≠ "java/lang/invoke/VarHandle") && (plainName (nmOf m).cls && (decide (NLo m ≤ 32) && decide ((inOf m = true → (nmOf m).name = "<init>")))))))))
