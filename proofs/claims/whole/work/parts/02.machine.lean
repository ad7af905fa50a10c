/-! THE MACHINE OVER WHOLE NUMBERS: values are a tag and a number (0 int, 1 long, 2 a cell's number or -1, 3 a text, 4 its bytes, 5 the script, 6 what nobody reads, 9 nothing); F the number fields, A the number arrays, R the references; Y: kinds and lengths of the cells, how many, cells and slots spent -/
abbrev Vv : Type := Nat × Int
abbrev Op : Type := Nat × Nat × Nat × Int × Int × List (Int × Nat)
abbrev Fn2 : Type := Int → Int → Int
abbrev Yy : Type := (Int → Nat) × (Int → Int) × Nat × Nat × Nat
abbrev Kk : Type := List Vv → List Vv → Fn2 → Fn2 → Fn2 → Yy → Prop
abbrev Qq : Type := Vv → Fn2 → Fn2 → Fn2 → Yy → Prop
abbrev Ee : Type := Nat → List Vv → Fn2 → Fn2 → Fn2 → Yy → Qq → Prop
abbrev vI (z : Int) : Vv := (0, z)
abbrev vL (z : Int) : Vv := (1, z)
abbrev vA (z : Int) : Vv := (2, z)
abbrev vN : Vv := (9, 0)
def R32 (z : Int) : Prop := -2147483648 ≤ z ∧ z ≤ 2147483647
def R64 (z : Int) : Prop := -9223372036854775808 ≤ z ∧ z ≤ 9223372036854775807
def w32 (z : Int) : Int := z.bmod 4294967296
def w64 (z : Int) : Int := z.bmod 18446744073709551616
def u1 (f : Int → Int) (i v : Int) : Int → Int := fun j => if j = i then v else f j
def up2 (M : Fn2) (a : Int) (f : Int → Int) : Fn2 := fun x => if x = a then f else M x
def st2 (M : Fn2) (a i v : Int) : Fn2 := up2 M a (u1 (M a) i v)
theorem u1_s {f : Int → Int} {i v : Int} : u1 f i v i = v := if_pos rfl
theorem u1_n {f : Int → Int} {i v j : Int} (h : j ≠ i) : u1 f i v j = f j := if_neg h
theorem up2_s {M : Fn2} {a : Int} {f : Int → Int} : up2 M a f a = f := if_pos rfl
theorem up2_n {M : Fn2} {a : Int} {f : Int → Int} {b : Int} (h : b ≠ a) : up2 M a f b = M b := if_neg h
theorem up2_up2 {M : Fn2} {a : Int} {f g : Int → Int} : up2 (up2 M a f) a g = up2 M a g := by
  funext x; unfold up2; by_cases h : x = a <;> simp [h]
theorem up2_comm {M : Fn2} {a b : Int} {f g : Int → Int} (h : a ≠ b) : up2 (up2 M a f) b g = up2 (up2 M b g) a f := by
  funext x; unfold up2
  by_cases h1 : x = a
  · subst h1; simp [h]
  · simp [h1]
theorem up2_id {M : Fn2} {a : Int} : up2 M a (M a) = M := by
  funext x; unfold up2; by_cases h : x = a <;> simp [h]
theorem st2_s {M : Fn2} {a i v : Int} : st2 M a i v a = u1 (M a) i v := if_pos rfl
theorem st2_n {M : Fn2} {a i v b : Int} (h : b ≠ a) : st2 M a i v b = M b := if_neg h
theorem u1_u1 {f : Int → Int} {i v w : Int} : u1 (u1 f i v) i w = u1 f i w := by
  funext x; unfold u1; by_cases h : x = i <;> simp [h]
def band (x y : Int) : Int := (Int32.ofInt x &&& Int32.ofInt y).toInt
def bor (x y : Int) : Int := (Int32.ofInt x ||| Int32.ofInt y).toInt
def bshl (x y : Int) : Int := (Int32.ofInt x <<< (Int32.ofInt y &&& 31)).toInt
def bshr (x y : Int) : Int := (Int32.ofInt x >>> (Int32.ofInt y &&& 31)).toInt
def bushr (x y : Int) : Int := ((Int32.ofInt x).toUInt32 >>> ((Int32.ofInt y).toUInt32 &&& Int32.toUInt32 31)).toInt32.toInt
def bi2b (x : Int) : Int := (Int32.ofInt x).toInt8.toInt32.toInt
def bi2c (x : Int) : Int := ((Int32.ofInt x).toUInt32 % 65536).toInt32.toInt
def blor (x y : Int) : Int := (Int64.ofInt x ||| Int64.ofInt y).toInt
def blshl (x y : Int) : Int := (Int64.ofInt x <<< ((Int32.ofInt y).toInt64 &&& 63)).toInt
def lcmpI (x y : Int) : Int := if x = y then 0 else if x < y then -1 else 1
def pI (st : List Vv) (f : Int → List Vv → Prop) : Prop := match st with
  | (0, x) :: r => f x r
  | _ => False
def pL (st : List Vv) (f : Int → List Vv → Prop) : Prop := match st with
  | (1, x) :: r => f x r
  | _ => False
def pA (st : List Vv) (f : Int → List Vv → Prop) : Prop := match st with
  | (2, x) :: r => f x r
  | _ => False
def pT (t : Nat) (st : List Vv) (f : Int → List Vv → Prop) : Prop := match st with
  | (s, x) :: r => cond (Nat.beq s t) (f x r) False
  | _ => False
def p1 (st : List Vv) (f : Vv → List Vv → Prop) : Prop := match st with
  | v :: r => cond (Nat.beq v.1 1) False (f v r)
  | _ => False
/-- which of iload, lload, aload reads a value with this tag -/
def kd (t : Nat) : Nat := match t with
  | 0 => 0
  | 1 => 1
  | 2 => 2
  | 3 => 2
  | 4 => 2
  | 5 => 2
  | 6 => 2
  | _ => 9
def cmpB (c : Nat) (x y : Int) : Prop := match c with
  | 0 => x = y
  | 1 => ¬ x = y
  | 2 => x < y
  | 3 => ¬ x < y
  | 4 => y < x
  | _ => ¬ y < x
def swP (x : Int) (w : List (Int × Nat)) (d : Nat) (G : Nat → Prop) : Prop := match w with
  | [] => G d
  | (k, t) :: w => (x = k → G t) ∧ (¬ x = k → swP x w d G)
def wsum : List Vv → Nat
  | [] => 0
  | v :: r => cond (Nat.beq v.1 1) 2 1 + wsum r
/-- the receiver of a call: 0 none, 1 a text, else a cell of that kind -/
def rcvP (k : Nat) (st : List Vv) (Y : Yy) : Prop := match k with
  | 0 => True
  | 1 => pT 3 st fun _ _ => True
  | k + 2 => pA st fun o _ => Y.1 o = k + 2
def cpy (f g : Int → Int) (sp dp n : Int) : Int → Int := fun j => if dp ≤ j ∧ j < dp + n then f (sp + (j - dp)) else g j
/-- the fields of a class: 0 a number, 1 a boolean, 2 a reference, 3 a long -/
def nfOf (c : Nat) : Nat := match c with
  | 0 => 13
  | 1 => 9
  | 2 => 19
  | 3 => 7
  | 4 => 5
  | 5 => 4
  | 6 => 6
  | 7 => 13
  | 8 => 9
  | 9 => 4
  | 10 => 19
  | _ => 89
def yNew (Y : Yy) (k : Nat) (n : Int) (s : Nat) : Yy := (fun x => if x = (Y.2.2.1 : Int) then k else Y.1 x, fun x => if x = (Y.2.2.1 : Int) then n else Y.2.1 x, Y.2.2.1 + 1, Y.2.2.2.1 + 1, Y.2.2.2.2 + s)
def yRows (Y : Yy) (n k : Nat) : Yy := (fun x => if (Y.2.2.1 : Int) + 1 ≤ x ∧ x < (Y.2.2.1 : Int) + 1 + n then 0 else if x = (Y.2.2.1 : Int) then 5 else Y.1 x, fun x => if (Y.2.2.1 : Int) + 1 ≤ x ∧ x < (Y.2.2.1 : Int) + 1 + n then (k : Int) else if x = (Y.2.2.1 : Int) then (n : Int) else Y.2.1 x, Y.2.2.1 + 1 + n, Y.2.2.2.1 + 1 + n, Y.2.2.2.2 + n + n * k)
def TXT0 : List Int := [114, 111, 111, 109, 32, 110, 101, 99, 107, 32, 112, 111, 111, 108, 32, 100, 101, 112, 116, 104, 32, 104, 111, 108, 100, 115, 32, 119, 105, 100, 101, 32, 104, 111, 116, 32, 99, 111, 108, 100, 32, 117, 112, 32, 97, 105, 114, 32, 106, 111, 105, 110, 32, 98, 111, 105, 108, 32, 108, 105, 102, 116, 32, 99, 111, 111, 108, 32, 111, 114, 32, 97, 110, 100, 32, 110, 111, 116, 32, 97, 98, 111, 118, 101, 32, 119, 97, 116, 101, 114, 32, 119, 97, 114, 109, 32]
def TXT1 : List Int := [59, 40, 41, 60, 62, 61, 43, 45, 42, 47]
/-- the texts that the class names, as numbers -/
def txt (k : Int) : List Int := if k = 0 then TXT0 else TXT1
/-- what an instruction asks for, and what goes on from it: 'N' behind it, 'G' where it jumps, 'E' calls, 'Q' ends; (c0, s0): spent as the method began, (mc, ms): what it may spend -/
def sem (E : Ee) (Q : Qq) (c0 s0 mc ms : Nat) (L : Int) (xs : Int → Int) (N : Kk) (G : Nat → Kk) (op : Op) : Kk := fun ls st F A R Y => match op with
  | (c, a, b, y, z, w) => match c with
    | 0 => N ls ((0, z) :: st) F A R Y
    | 1 => N ls ((1, z) :: st) F A R Y
    | 2 => match ls[a]? with
      | some (t, v) => cond (Nat.beq (kd t) b) (N ls ((t, v) :: st) F A R Y) False
      | none => False
    | 3 => pT b st fun v r => a < ls.length ∧ N (ls.set a (b, v)) r F A R Y
    | 5 => match ls[a]? with
      | some (0, v) => R32 (v + z) ∧ N (ls.set a (0, v + z)) st F A R Y
      | _ => False
    | 6 => pI st fun q r => pI r fun p r => R32 (p + q) ∧ N ls ((0, p + q) :: r) F A R Y
    | 7 => pI st fun q r => pI r fun p r => R32 (p - q) ∧ N ls ((0, p - q) :: r) F A R Y
    | 8 => pI st fun q r => pI r fun p r => R32 (p * q) ∧ N ls ((0, p * q) :: r) F A R Y
    | 9 => pI st fun q r => pI r fun p r => 0 ≤ p ∧ 0 < q ∧ N ls ((0, p / q) :: r) F A R Y
    | 10 => pI st fun q r => pI r fun p r => 0 ≤ p ∧ 0 < q ∧ N ls ((0, p % q) :: r) F A R Y
    | 11 => pI st fun q r => pI r fun p r => N ls ((0, w32 (p + q)) :: r) F A R Y
    | 12 => pI st fun q r => pI r fun p r => N ls ((0, w32 (p - q)) :: r) F A R Y
    | 13 => pI st fun q r => pI r fun p r => N ls ((0, w32 (p * q)) :: r) F A R Y
    | 14 => pI st fun q r => pI r fun p r => ¬ q = 0 ∧ N ls ((0, w32 (p.tdiv q)) :: r) F A R Y
    | 15 => pI st fun q r => pI r fun p r => N ls ((0, band p q) :: r) F A R Y
    | 16 => pI st fun q r => pI r fun p r => N ls ((0, bor p q) :: r) F A R Y
    | 17 => pI st fun q r => pI r fun p r => N ls ((0, bshl p q) :: r) F A R Y
    | 18 => pI st fun q r => pI r fun p r => N ls ((0, bshr p q) :: r) F A R Y
    | 19 => pI st fun q r => pI r fun p r => N ls ((0, bushr p q) :: r) F A R Y
    | 20 => pI st fun p r => R32 (-p) ∧ N ls ((0, -p) :: r) F A R Y
    | 21 => pI st fun p r => N ls ((0, bi2b p) :: r) F A R Y
    | 22 => pI st fun p r => N ls ((0, bi2c p) :: r) F A R Y
    | 23 => pI st fun p r => N ls ((1, p) :: r) F A R Y
    | 24 => pL st fun p r => R32 p ∧ N ls ((0, p) :: r) F A R Y
    | 25 => pL st fun q r => pL r fun p r => R64 (p + q) ∧ N ls ((1, p + q) :: r) F A R Y
    | 26 => pL st fun q r => pL r fun p r => R64 (p - q) ∧ N ls ((1, p - q) :: r) F A R Y
    | 27 => pL st fun q r => pL r fun p r => R64 (p * q) ∧ N ls ((1, p * q) :: r) F A R Y
    | 28 => pL st fun q r => pL r fun p r => 0 ≤ p ∧ 0 < q ∧ N ls ((1, p / q) :: r) F A R Y
    | 29 => pL st fun q r => pL r fun p r => N ls ((1, blor p q) :: r) F A R Y
    | 30 => pI st fun q r => pL r fun p r => N ls ((1, blshl p q) :: r) F A R Y
    | 31 => pL st fun q r => pL r fun p r => N ls ((0, lcmpI p q) :: r) F A R Y
    | 32 => p1 st fun v r => N ls (v :: v :: r) F A R Y
    | 33 => p1 st fun v r => p1 r fun u r => N ls (v :: u :: v :: u :: r) F A R Y
    | 34 => p1 st fun _ r => N ls r F A R Y
    | 35 => pA st fun o r => Y.1 o = a ∧ N ls ((0, F o y) :: r) F A R Y
    | 36 => pA st fun o r => Y.1 o = a ∧ ∃ q, R o y = q ∧ N ls ((2, q) :: r) F A R Y
    | 37 => pA st fun o r => Y.1 o = a ∧ N ls ((1, F o y) :: r) F A R Y
    | 38 => pI st fun v r => pA r fun o r => Y.1 o = a ∧ N ls r (st2 F o y v) A R Y
    | 39 => pI st fun v r => pA r fun o r => Y.1 o = a ∧ 0 ≤ v ∧ v ≤ 1 ∧ N ls r (st2 F o y v) A R Y
    | 40 => pA st fun v r => pA r fun o r => Y.1 o = a ∧ N ls r F A (st2 R o y v) Y
    | 41 => pL st fun v r => pA r fun o r => Y.1 o = a ∧ N ls r (st2 F o y v) A R Y
    | 44 => pA st fun v r => pA r fun o r => Y.1 o = a ∧ N ls r F A (st2 R o y v) Y
    | 46 => pA st fun o r => Y.1 o = a ∧ N ls ((0, Y.2.1 o) :: r) F A R Y
    | 47 => pI st fun i r => pA r fun o r => Y.1 o = a ∧ 0 ≤ i ∧ i < Y.2.1 o ∧ N ls ((0, A o i) :: r) F A R Y
    | 50 => pI st fun i r => pA r fun o r => Y.1 o = 3 ∧ 0 ≤ i ∧ i < Y.2.1 o ∧ N ls ((1, A o i) :: r) F A R Y
    | 51 => pI st fun i r => pA r fun o r => Y.1 o = a ∧ 0 ≤ i ∧ i < Y.2.1 o ∧ ∃ q, R o i = q ∧ N ls ((2, q) :: r) F A R Y
    | 53 => pI st fun v r => pI r fun i r => pA r fun o r => Y.1 o = 0 ∧ 0 ≤ i ∧ i < Y.2.1 o ∧ N ls r F (st2 A o i v) R Y
    | 54 => pI st fun v r => pI r fun i r => pA r fun o r => Y.1 o = 1 ∧ 0 ≤ i ∧ i < Y.2.1 o ∧ -128 ≤ v ∧ v ≤ 127 ∧ N ls r F (st2 A o i v) R Y
    | 55 => pI st fun v r => pI r fun i r => pA r fun o r => Y.1 o = 2 ∧ 0 ≤ i ∧ i < Y.2.1 o ∧ 0 ≤ v ∧ v ≤ 1 ∧ N ls r F (st2 A o i v) R Y
    | 56 => pL st fun v r => pI r fun i r => pA r fun o r => Y.1 o = 3 ∧ 0 ≤ i ∧ i < Y.2.1 o ∧ N ls r F (st2 A o i v) R Y
    | 57 => pA st fun v r => pI r fun i r => pA r fun o r => Y.1 o = 4 ∧ 0 ≤ i ∧ i < Y.2.1 o ∧ Y.1 v = 11 ∧ N ls r F A (st2 R o i v) Y
    | 58 => Y.2.2.2.1 + 1 ≤ c0 + mc ∧ Y.2.2.2.2 + nfOf a ≤ s0 + ms ∧ N ls ((2, (Y.2.2.1 : Int)) :: st) (up2 F Y.2.2.1 fun _ => 0) A (up2 R Y.2.2.1 fun _ => -1) (yNew Y (10 + a) 0 (nfOf a))
    | 59 => pI st fun n r => 0 ≤ n ∧ n ≤ 10008 ∧ Y.2.2.2.1 + 1 ≤ c0 + mc ∧ Y.2.2.2.2 + n.toNat ≤ s0 + ms ∧ N ls ((2, (Y.2.2.1 : Int)) :: r) F (up2 A Y.2.2.1 fun _ => 0) R (yNew Y a n n.toNat)
    | 60 => pI st fun n r => 0 ≤ n ∧ n ≤ 10008 ∧ Y.2.2.2.1 + 1 ≤ c0 + mc ∧ Y.2.2.2.2 + n.toNat ≤ s0 + ms ∧ N ls ((2, (Y.2.2.1 : Int)) :: r) F A (up2 R Y.2.2.1 fun _ => -1) (yNew Y 4 n n.toNat)
    | 61 => pI st fun k r => pI r fun n r => 0 ≤ n ∧ n ≤ 200 ∧ 0 ≤ k ∧ k ≤ 200 ∧ Y.2.2.2.1 + 1 + n.toNat ≤ c0 + mc ∧ Y.2.2.2.2 + n.toNat + n.toNat * k.toNat ≤ s0 + ms ∧ N ls ((2, (Y.2.2.1 : Int)) :: r) F (fun x => if (Y.2.2.1 : Int) + 1 ≤ x ∧ x < (Y.2.2.1 : Int) + 1 + n then (fun _ => 0) else A x) (up2 R Y.2.2.1 fun i => if 0 ≤ i ∧ i < n then (Y.2.2.1 : Int) + 1 + i else -1) (yRows Y n.toNat k.toNat)
    | 62 => G b ls st F A R Y
    | 63 => pI st fun x r => (cmpB a x 0 → G b ls r F A R Y) ∧ (¬ cmpB a x 0 → N ls r F A R Y)
    | 64 => pI st fun q r => pI r fun p r => (cmpB a p q → G b ls r F A R Y) ∧ (¬ cmpB a p q → N ls r F A R Y)
    | 65 => pI st fun x r => swP x w b fun t => G t ls r F A R Y
    | 66 => cond (Nat.ble (wsum (st.drop b)) 8 && Nat.ble b st.length) (rcvP z.toNat (st.drop (b - 1)) Y ∧ E a (st.take b).reverse F A R Y fun v F A R Y => N ls (v :: st.drop b) F A R Y) False
    | 67 => cond (Nat.ble (wsum (st.drop b)) 8 && Nat.ble b st.length) (rcvP z.toNat (st.drop (b - 1)) Y ∧ E a (st.take b).reverse F A R Y fun _ F A R Y => N ls (st.drop b) F A R Y) False
    | 68 => pI st fun q r => pI r fun p r => cond (Nat.ble (wsum r) 8) (N ls ((0, min p q) :: r) F A R Y) False
    | 69 => pI st fun q r => pI r fun p r => cond (Nat.ble (wsum r) 8) (N ls ((0, max p q) :: r) F A R Y) False
    | 70 => pI st fun p r => cond (Nat.ble (wsum r) 8) (R32 (-p) ∧ N ls ((0, if p < 0 then -p else p) :: r) F A R Y) False
    | 71 => pI st fun n r => pI r fun dp r => pA r fun d r => pI r fun sp r => pA r fun o r => cond (Nat.ble (wsum r) 8) (Y.1 o = 0 ∧ Y.1 d = 0 ∧ 0 ≤ n ∧ 0 ≤ sp ∧ 0 ≤ dp ∧ sp + n ≤ Y.2.1 o ∧ dp + n ≤ Y.2.1 d ∧ N ls r F (up2 A d (cpy (A o) (A d) sp dp n)) R Y) False
    | 72 => match st with
      | [(0, v)] => Y.2.2.2.1 ≤ c0 + mc ∧ Y.2.2.2.2 ≤ s0 + ms ∧ Q (0, v) F A R (Y.1, Y.2.1, Y.2.2.1, c0 + mc, s0 + ms)
      | _ => False
    | 73 => match st with
      | [(0, v)] => y ≤ v ∧ v ≤ z ∧ Y.2.2.2.1 ≤ c0 + mc ∧ Y.2.2.2.2 ≤ s0 + ms ∧ Q (0, v) F A R (Y.1, Y.2.1, Y.2.2.1, c0 + mc, s0 + ms)
      | _ => False
    | 74 => match st with
      | [] => Y.2.2.2.1 ≤ c0 + mc ∧ Y.2.2.2.2 ≤ s0 + ms ∧ Q (9, 0) F A R (Y.1, Y.2.1, Y.2.2.1, c0 + mc, s0 + ms)
      | _ => False
    | 75 => match st with
      | [(2, v)] => Y.2.2.2.1 ≤ c0 + mc ∧ Y.2.2.2.2 ≤ s0 + ms ∧ Q (2, v) F A R (Y.1, Y.2.1, Y.2.2.1, c0 + mc, s0 + ms)
      | _ => False
    | 76 => N ls ((3, z) :: st) F A R Y
    | 77 => pT 3 st fun k r => N ls ((4, k) :: r) F A R Y
    | 78 => pT 3 st fun _ r => N ls ((0, 0) :: r) F A R Y
    | 79 => N ls ((0, z) :: st) F A R Y
    | 83 => N ls ((6, 0) :: st) F A R Y
    | 84 => pT 4 st fun k r => N ls ((0, ((txt k).length : Int)) :: r) F A R Y
    | 85 => pI st fun i r => pT 4 r fun k r => 0 ≤ i ∧ i < (txt k).length ∧ N ls ((0, (txt k).getD i.toNat 0) :: r) F A R Y
    | 80 => pI st fun i r => pT 5 r fun _ r => 0 ≤ i ∧ i < L ∧ N ls ((0, xs i) :: r) F A R Y
    | 81 => pT 5 st fun _ r => N ls ((0, L) :: r) F A R Y
    | 82 => pA st fun o r => cond (Nat.ble (wsum r) 8) (0 ≤ o ∧ N ls r F A R Y) False
    | 87 => pL st fun q r => pL r fun p r => N ls ((1, w64 (p * q)) :: r) F A R Y
    | 88 => pL st fun q r => pL r fun p r => N ls ((1, w64 (p + q)) :: r) F A R Y
    | 89 => pL st fun q r => pL r fun p r => N ls ((1, w64 (p - q)) :: r) F A R Y
    | 86 => cond (Nat.ble (wsum (st.drop b)) 8 && Nat.ble b st.length) (rcvP (z.toNat % 100) (st.drop (b - 1)) Y ∧ Y.2.2.2.1 + z.toNat / 100 ≤ c0 + mc ∧ Y.2.2.2.2 + y.toNat ≤ s0 + ms ∧ E a (st.take b).reverse F A R Y fun _ F A R Y => N ls (st.drop b) F A R Y) False
    | 90 => cond (Nat.ble (wsum (st.drop b)) 8 && Nat.ble b st.length) (rcvP (z.toNat % 100) (st.drop (b - 1)) Y ∧ Y.2.2.2.1 + z.toNat / 100 ≤ c0 + mc ∧ Y.2.2.2.2 + y.toNat ≤ s0 + ms ∧ E a (st.take b).reverse F A R Y fun _ F A R Y => N ls (st.drop b) F A R Y) False
    | _ => False
abbrev En1 : Type := Nat × Nat × Nat × Op
def opAt (t : List (Nat × En1)) (pc : Nat) : Option En1 := match t with
  | [] => none
  | (p, q) :: t => cond (Nat.beq p pc) (some q) (opAt t pc)
section MACH
variable {TT : Nat → List (Nat × En1)} {MC MS NL : Nat → Nat} {LG : Nat → List Nat} {L : Int} {xs : Int → Int}
def GStp (TT : Nat → List (Nat × En1)) (MC MS : Nat → Nat) (L : Int) (xs : Int → Int) (E : Ee) (Q : Qq) (m c0 s0 : Nat) (P : Nat → Kk) (pc : Nat) : Kk := fun ls st F A R Y => match opAt (TT m) pc with
  | some (len, _, _, op) => sem E Q c0 s0 (MC m) (MS m) L xs (P (pc + len)) P op ls st F A R Y
  | none => False
def Gt (TT : Nat → List (Nat × En1)) (MC MS : Nat → Nat) (L : Int) (xs : Int → Int) (E : Ee) (Q : Qq) (m c0 s0 : Nat) (pc : Nat) : Kk := fun ls st F A R Y =>
  ∀ P : Nat → Kk, (∀ pc ls st F A R Y, GStp TT MC MS L xs E Q m c0 s0 P pc ls st F A R Y → P pc ls st F A R Y) → P pc ls st F A R Y
def spread : List Vv → List Vv
  | [] => []
  | (1, z) :: r => (1, z) :: (9, 0) :: spread r
  | v :: r => v :: spread r
def ent (n : Nat) (args : List Vv) : List Vv := spread args ++ List.replicate (n - (spread args).length) (9, 0)
/-- where longs stand among the locals as a method begins -/
def lgs : List Vv → Nat → List Nat
  | [], _ => []
  | (1, _) :: r, i => i :: lgs r (i + 2)
  | _ :: r, i => lgs r (i + 1)
def En (TT : Nat → List (Nat × En1)) (MC MS NL : Nat → Nat) (LG : Nat → List Nat) (L : Int) (xs : Int → Int) : Nat → Ee
  | 0 => fun _ _ _ _ _ _ _ => False
  | k + 1 => fun y args F A R Y Q => (lgs args 0 = LG y ∧ (ent (NL y) args).length = NL y) ∧ Gt TT MC MS L xs (En TT MC MS NL LG L xs k) Q y Y.2.2.2.1 Y.2.2.2.2 0 (ent (NL y) args) [] F A R Y
theorem pI_m {st : List Vv} {f g : Int → List Vv → Prop} (h : ∀ x r, f x r → g x r) : pI st f → pI st g := by
  unfold pI; split
  · exact h _ _
  · exact id
theorem pL_m {st : List Vv} {f g : Int → List Vv → Prop} (h : ∀ x r, f x r → g x r) : pL st f → pL st g := by
  unfold pL; split
  · exact h _ _
  · exact id
theorem pA_m {st : List Vv} {f g : Int → List Vv → Prop} (h : ∀ x r, f x r → g x r) : pA st f → pA st g := by
  unfold pA; split
  · exact h _ _
  · exact id
theorem pT_m {t : Nat} {st : List Vv} {f g : Int → List Vv → Prop} (h : ∀ x r, f x r → g x r) : pT t st f → pT t st g := by
  unfold pT; split
  · cases Nat.beq _ _
    · exact id
    · exact h _ _
  · exact id
theorem p1_m {st : List Vv} {f g : Vv → List Vv → Prop} (h : ∀ x r, f x r → g x r) : p1 st f → p1 st g := by
  unfold p1; split
  · cases Nat.beq _ _
    · exact h _ _
    · exact id
  · exact id
theorem cond_m {b : Bool} {p q : Prop} (h : p → q) : cond b p False → cond b q False := by
  cases b
  · exact id
  · exact h
theorem and_m {a p q : Prop} (h : p → q) : a ∧ p → a ∧ q := fun x => ⟨x.1, h x.2⟩
theorem br_m {c p q p' q' : Prop} (h : p → p') (h' : q → q') : (c → p) ∧ (¬ c → q) → (c → p') ∧ (¬ c → q') := fun x => ⟨fun z => h (x.1 z), fun z => h' (x.2 z)⟩
theorem ex_m {p q : Int → Prop} (h : ∀ x, p x → q x) : (∃ x, p x) → ∃ x, q x := fun ⟨x, hx⟩ => ⟨x, h x hx⟩
theorem swP_m {x : Int} {d : Nat} {G G' : Nat → Prop} (h : ∀ t, G t → G' t) : ∀ w, swP x w d G → swP x w d G'
  | [] => h d
  | (_, t) :: w => fun hx => ⟨fun z => h t (hx.1 z), fun z => swP_m h w (hx.2 z)⟩
def MonoE (E : Ee) : Prop := ∀ y args F A R Y (Q Q' : Qq), (∀ v F A R Y, Q v F A R Y → Q' v F A R Y) → E y args F A R Y Q → E y args F A R Y Q'
set_option maxHeartbeats 4000000 in
theorem sem_m {E : Ee} (hE : MonoE E) {Q Q' : Qq} {c0 s0 mc ms : Nat} {N N' : Kk} {G G' : Nat → Kk} (op : Op) (hQ : ∀ v F A R Y, Q v F A R Y → Q' v F A R Y) (hN : ∀ ls st F A R Y, N ls st F A R Y → N' ls st F A R Y) (hG : ∀ pc ls st F A R Y, G pc ls st F A R Y → G' pc ls st F A R Y) {ls st : List Vv} {F A R : Fn2} {Y : Yy} :
    sem E Q c0 s0 mc ms L xs N G op ls st F A R Y → sem E Q' c0 s0 mc ms L xs N' G' op ls st F A R Y := by
  obtain ⟨c, a, b, y, z, w⟩ := op
  unfold sem
  dsimp only
  split <;> (try (first
    | exact hN _ _ _ _ _ _
    | exact hG _ _ _ _ _ _ _
    | exact id))
  all_goals (try (repeat first
    | exact hN _ _ _ _ _ _
    | exact hG _ _ _ _ _ _ _
    | exact hQ _ _ _ _ _
    | refine pI_m fun _ _ => ?_
    | refine pL_m fun _ _ => ?_
    | refine pA_m fun _ _ => ?_
    | refine pT_m fun _ _ => ?_
    | refine p1_m fun _ _ => ?_
    | refine cond_m ?_
    | exact br_m (hG _ _ _ _ _ _ _) (hN _ _ _ _ _ _)
    | exact swP_m (fun t => hG t _ _ _ _ _ _) _
    | exact hE _ _ _ _ _ _ _ _ (fun _ _ _ _ _ => hN _ _ _ _ _ _)
    | refine and_m ?_
    | refine ex_m fun _ => ?_
    | (split <;> (try exact id))))
theorem GStp_m {E : Ee} (hE : MonoE E) {Q Q' : Qq} {m c0 s0 : Nat} {P P' : Nat → Kk} (hQ : ∀ v F A R Y, Q v F A R Y → Q' v F A R Y) (hP : ∀ pc ls st F A R Y, P pc ls st F A R Y → P' pc ls st F A R Y) {pc : Nat} {ls st : List Vv} {F A R : Fn2} {Y : Yy} (h : GStp TT MC MS L xs E Q m c0 s0 P pc ls st F A R Y) : GStp TT MC MS L xs E Q' m c0 s0 P' pc ls st F A R Y := by
  unfold GStp at h ⊢
  revert h
  split
  · exact sem_m hE _ hQ (hP _) hP
  · exact id
theorem Gt.stp {E : Ee} (hE : MonoE E) {Q : Qq} {m c0 s0 pc : Nat} {ls st : List Vv} {F A R : Fn2} {Y : Yy} (h : GStp TT MC MS L xs E Q m c0 s0 (Gt TT MC MS L xs E Q m c0 s0) pc ls st F A R Y) : Gt TT MC MS L xs E Q m c0 s0 pc ls st F A R Y := fun P hP =>
  hP _ _ _ _ _ _ _ (GStp_m hE (fun _ _ _ _ _ q => q) (fun _ _ _ _ _ _ _ q => q P hP) h)
theorem Gt.mono {E : Ee} (hE : MonoE E) {Q Q' : Qq} {m c0 s0 pc : Nat} {ls st : List Vv} {F A R : Fn2} {Y : Yy} (hQ : ∀ v F A R Y, Q v F A R Y → Q' v F A R Y) (h : Gt TT MC MS L xs E Q m c0 s0 pc ls st F A R Y) : Gt TT MC MS L xs E Q' m c0 s0 pc ls st F A R Y := fun P hP =>
  h P (fun _ _ _ _ _ _ _ q => hP _ _ _ _ _ _ _ (GStp_m hE hQ (fun _ _ _ _ _ _ _ q => q) q))
theorem En_mono : ∀ k, MonoE (En TT MC MS NL LG L xs k)
  | 0 => fun _ _ _ _ _ _ _ _ _ h => h
  | k + 1 => fun _ _ _ _ _ _ _ _ hQ h => ⟨h.1, Gt.mono (En_mono k) hQ h.2⟩
/-- a straight stretch: its instructions one behind the other -/
def Blk (E : Ee) (Q : Qq) (c0 s0 mc ms : Nat) (L : Int) (xs : Int → Int) (G : Nat → Kk) (e : Nat) : List Op → Kk
  | [] => G e
  | op :: ops => sem E Q c0 s0 mc ms L xs (Blk E Q c0 s0 mc ms L xs G e ops) G op
def wEq : List (Int × Nat) → List (Int × Nat) → Bool
  | [], [] => true
  | (a, b) :: l, (c, d) :: k => decide (a = c) && (Nat.beq b d && wEq l k)
  | _, _ => false
theorem wEq_s : ∀ l k, wEq l k = true → l = k
  | [], [], _ => rfl
  | (a, b) :: l, (c, d) :: k, h => by
    simp only [wEq, Bool.and_eq_true, decide_eq_true_eq] at h
    obtain ⟨h1, h2, h3⟩ := h
    rw [h1, Nat.eq_of_beq_eq_true h2, wEq_s l k h3]
  | [], _ :: _, h => by cases h
  | _ :: _, [], h => by cases h
def opEq : Op → Op → Bool
  | (a, b, c, y, z, w), (a', b', c', y', z', w') => Nat.beq a a' && (Nat.beq b b' && (Nat.beq c c' && (decide (y = y') && (decide (z = z') && wEq w w'))))
theorem opEq_s {p q : Op} (h : opEq p q = true) : p = q := by
  obtain ⟨a, b, c, y, z, w⟩ := p
  obtain ⟨a', b', c', y', z', w'⟩ := q
  simp only [opEq, Bool.and_eq_true, decide_eq_true_eq] at h
  obtain ⟨h1, h2, h3, h4, h5, h6⟩ := h
  rw [Nat.eq_of_beq_eq_true h1, Nat.eq_of_beq_eq_true h2, Nat.eq_of_beq_eq_true h3, h4, h5, wEq_s _ _ h6]
def blkAt (t : List (Nat × En1)) (pc : Nat) : List Op → Nat → Bool
  | [], e => Nat.beq pc e
  | op :: ops, e => match opAt t pc with
    | some (len, _, _, q) => opEq q op && blkAt t (pc + len) ops e
    | none => false
theorem Blk.run {E : Ee} (hE : MonoE E) {Q : Qq} {m c0 s0 e : Nat} : ∀ (ops : List Op) (pc : Nat), blkAt (TT m) pc ops e = true → ∀ {ls st : List Vv} {F A R : Fn2} {Y : Yy}, Blk E Q c0 s0 (MC m) (MS m) L xs (Gt TT MC MS L xs E Q m c0 s0) e ops ls st F A R Y → Gt TT MC MS L xs E Q m c0 s0 pc ls st F A R Y
  | [], pc, hc => by
    intro h
    have e1 : pc = e := Nat.eq_of_beq_eq_true hc
    subst e1; exact h
  | op :: ops, pc, hc => by
    intro h
    unfold blkAt at hc
    apply Gt.stp hE
    unfold GStp
    split at hc
    · rename_i len x1 x2 q hq
      rw [Bool.and_eq_true] at hc
      obtain ⟨h1, h2⟩ := hc
      have h1 := opEq_s h1
      subst h1
      exact sem_m hE _ (fun _ _ _ _ _ q => q) (fun _ _ _ _ _ _ q => Blk.run hE ops (pc + len) h2 q) (fun _ _ _ _ _ _ _ q => q) h
    · cases hc
end MACH
