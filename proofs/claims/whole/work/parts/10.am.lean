/-! THE ABSTRACT MACHINE (am_): the claim's own code, over a heap whose addresses are places; am_sim, later, proves once that the machine does what it does. -/
/-- a cell: an object (number of its class, fields) or an array (component type, contents) -/
abbrev am_C : Type := (Nat × List Value) ⊕ (FieldType × vp_A)
/-- what nobody writes; the cells of the class; the cells of the reference and of the law; how many cells and slots were made in all -/
abbrev am_H : Type := List am_C × List am_C × List am_C × Nat × Nat
/-- place in the code, locals, operand stack, heap -/
abbrev am_S : Type := Nat × List Value × List Value × am_H
/-- returned, or thrown by its number -/
abbrev am_O : Type := (Option Value ⊕ Nat) × am_H
def am_ju : Value := .retAddr 0
def am_nth {α : Type} : List α → Nat → Option α
  | [], _ => none
  | a :: _, 0 => some a
  | _ :: l, n + 1 => am_nth l n
theorem am_nth_eq {α : Type} : ∀ (l : List α) (n : Nat), am_nth l n = l[n]?
  | [], n => by simp [am_nth]
  | a :: l, 0 => by simp [am_nth]
  | a :: l, n + 1 => by simp [am_nth, am_nth_eq l n]
def am_get (h : am_H) (a : Nat) : Option am_C := cond (Nat.blt a 100) (am_nth h.1 a) (cond (Nat.blt a 1000) (am_nth h.2.1 (a - 100)) (am_nth h.2.2.1 (a - 1000)))
def am_put (h : am_H) (a : Nat) (c : am_C) : am_H := cond (Nat.blt a 1000) (h.1, h.2.1.set (a - 100) c, h.2.2) (h.1, h.2.1, h.2.2.1.set (a - 1000) c, h.2.2.2)
/-- storing a local: what it tears is known no more -/
def am_tear : List Value → Nat → List Value
  | .long _ :: l, 1 => am_ju :: l
  | a :: l, n + 1 => a :: am_tear l n
  | l, _ => l
def am_st1 (lv : List Value) (i : Nat) (v : Value) : List Value := (am_tear lv i).set i v
def am_st2 (lv : List Value) (i : Nat) (v : Value) : List Value := ((am_tear lv i).set i v).set (i + 1) am_ju
def am_in (i : Int32) (n : Nat) : Bool := decide (0 ≤ i.toInt ∧ i.toInt < n)
def am_ite {α : Type} (c : Prop) [Decidable c] (a b : α) : α := if c then a else b
def am_cond (c : Jvm.ClassFile.Cond) (x y : Int32) : Bool := match c with
  | .eq => decide (x = y)
  | .ne => decide (¬ x = y)
  | .lt => decide (x < y)
  | .ge => decide (y ≤ x)
  | .gt => decide (y < x)
  | .le => decide (x ≤ y)
/-- so many values off the stack, the deepest first -/
def am_pop : Nat → List Value → List Value → Option (List Value × List Value)
  | 0, acc, st => some (acc, st)
  | _ + 1, _, [] => none
  | n + 1, acc, v :: st => am_pop n (v :: acc) st
/-- locals at the entry -/
def am_args : List Value → List Value
  | [] => []
  | .long x :: l => .long x :: am_ju :: am_args l
  | v :: l => v :: am_args l
/-! THE ABSTRACT MACHINE, 2: one instruction in continuation form; runs; calls; outcomes -/
def am_lit (v : Int) : Int32 := match v with
  | .ofNat n => Int32.ofNat n
  | .negSucc n => -(Int32.ofNat (n + 1))
def am_litl (v : Int) : Int64 := match v with
  | .ofNat n => Int64.ofNat n
  | .negSucc n => -(Int64.ofNat (n + 1))
def am_shl (x : Int64) (y : Int32) : Int64 := x <<< (y.toInt64 &&& 63)
def am_shr (x : Int64) (y : Int32) : Int64 := x >>> (y.toInt64 &&& 63)
def am_ushr (x : Int64) (y : Int32) : Int64 := (x.toUInt64 >>> (y.toInt64.toUInt64 &&& Int64.toUInt64 63)).toInt64
def am_i2c (x : Int32) : Int32 := (x.toUInt32 % 65536).toInt32
def am_abs (x : Int32) : Int32 := if 0 ≤ x then x else 0 - x
/-- words of the values -/
def am_wd : List Value → Nat
  | [] => 0
  | .long _ :: l => 2 + am_wd l
  | .double _ :: l => 2 + am_wd l
  | _ :: l => 1 + am_wd l
/-- what a field of that type may hold -/
def am_fit (ty : FieldType) (v : Value) : Bool := match ty, v with
  | .int, .int _ => true
  | .long, .long _ => true
  | .boolean, .int x => decide (x = 0 ∨ x = 1)
  | .object _, .ref _ => true
  | .array _, .ref _ => true
  | _, _ => false
/-- a chain of cases, as a switch goes through them -/
def am_sw {α : Type} (x : Int32) (kk : Nat → α) (d : Nat) : Int → List Int → α
  | _, [] => kk d
  | v, t :: ts => cond (decide (x = am_lit v)) (kk t.toNat) (am_sw x kk d (v + 1) ts)
def am_new (h : am_H) (m : Bool) (c : am_C) (slots : Nat) : Option (Nat × am_H) :=
  match m with
  | true => some (1000 + h.2.2.1.length, (h.1, h.2.1, h.2.2.1 ++ [c], h.2.2.2.1 + 1, h.2.2.2.2 + slots))
  | false => match h.2.2.1 with
    | [] => some (100 + h.2.1.length, (h.1, h.2.1 ++ [c], [], h.2.2.2.1 + 1, h.2.2.2.2 + slots))
    | _ => none
def k_Board_attacked : Nat := 1
def k_Board_make : Nat := 2
def k_Board_pawnAttacks : Nat := 3
def k_Board_put : Nat := 4
def k_Board_castleRook : Nat := 5
def k_Board_lift : Nat := 6
def cd_Board_attacked (pc : Nat) : Option (Instr × Nat) :=
  cond (Nat.blt pc 79) (cond (Nat.blt pc 39) (cond (Nat.blt pc 19) (cond (Nat.blt pc 10) (cond (Nat.blt pc 4) (cond (Nat.blt pc 2) (cond (Nat.beq pc 0) (some (.sipush 8, 2)) none) (cond (Nat.blt pc 3) (cond (Nat.beq pc 2) (some (.istore 3, 1)) none) (cond (Nat.beq pc 3) (some (.iload 3, 1)) none))) (cond (Nat.blt pc 6) (cond (Nat.beq pc 4) (some (.sipush 16, 2)) none) (cond (Nat.blt pc 9) (cond (Nat.beq pc 6) (some (.if_icmp .ge 51, 3)) none) (cond (Nat.beq pc 9) (some (.aload 0, 1)) none)))) (cond (Nat.blt pc 16) (cond (Nat.blt pc 13) (cond (Nat.beq pc 10) (some (.getfield 96, 3)) none) (cond (Nat.blt pc 15) (cond (Nat.beq pc 13) (some (.sipush 64, 2)) none) (cond (Nat.beq pc 15) (some (.iload 3, 1)) none))) (cond (Nat.blt pc 17) (cond (Nat.beq pc 16) (some (.imul, 1)) none) (cond (Nat.blt pc 18) (cond (Nat.beq pc 17) (some (.iload 1, 1)) none) (cond (Nat.beq pc 18) (some (.iadd, 1)) none))))) (cond (Nat.blt pc 31) (cond (Nat.blt pc 24) (cond (Nat.blt pc 20) (cond (Nat.beq pc 19) (some (.iaload, 1)) none) (cond (Nat.blt pc 22) (cond (Nat.beq pc 20) (some (.istore 4, 2)) none) (cond (Nat.beq pc 22) (some (.iload 4, 2)) none))) (cond (Nat.blt pc 27) (cond (Nat.beq pc 24) (some (.ifCond .lt 45, 3)) none) (cond (Nat.blt pc 28) (cond (Nat.beq pc 27) (some (.aload 0, 1)) none) (cond (Nat.beq pc 28) (some (.getfield 97, 3)) none)))) (cond (Nat.blt pc 35) (cond (Nat.blt pc 33) (cond (Nat.beq pc 31) (some (.iload 4, 2)) none) (cond (Nat.blt pc 34) (cond (Nat.beq pc 33) (some (.iaload, 1)) none) (cond (Nat.beq pc 34) (some (.sipush 2, 1)) none))) (cond (Nat.blt pc 37) (cond (Nat.beq pc 35) (some (.sipush 8, 2)) none) (cond (Nat.blt pc 38) (cond (Nat.beq pc 37) (some (.iload 2, 1)) none) (cond (Nat.beq pc 38) (some (.imul, 1)) none)))))) (cond (Nat.blt pc 60) (cond (Nat.blt pc 51) (cond (Nat.blt pc 44) (cond (Nat.blt pc 40) (cond (Nat.beq pc 39) (some (.iadd, 1)) none) (cond (Nat.blt pc 43) (cond (Nat.beq pc 40) (some (.if_icmp .ne 45, 3)) none) (cond (Nat.beq pc 43) (some (.sipush 1, 1)) none))) (cond (Nat.blt pc 45) (cond (Nat.beq pc 44) (some (.ireturn, 1)) none) (cond (Nat.blt pc 48) (cond (Nat.beq pc 45) (some (.iinc 3 1, 3)) none) (cond (Nat.beq pc 48) (some (.goto 3, 3)) none)))) (cond (Nat.blt pc 54) (cond (Nat.blt pc 52) (cond (Nat.beq pc 51) (some (.sipush 0, 1)) none) (cond (Nat.blt pc 53) (cond (Nat.beq pc 52) (some (.istore 3, 1)) none) (cond (Nat.beq pc 53) (some (.iload 3, 1)) none))) (cond (Nat.blt pc 56) (cond (Nat.beq pc 54) (some (.sipush 8, 2)) none) (cond (Nat.blt pc 59) (cond (Nat.beq pc 56) (some (.if_icmp .ge 168, 3)) none) (cond (Nat.beq pc 59) (some (.aload 0, 1)) none))))) (cond (Nat.blt pc 69) (cond (Nat.blt pc 66) (cond (Nat.blt pc 63) (cond (Nat.beq pc 60) (some (.getfield 96, 3)) none) (cond (Nat.blt pc 65) (cond (Nat.beq pc 63) (some (.sipush 64, 2)) none) (cond (Nat.beq pc 65) (some (.iload 3, 1)) none))) (cond (Nat.blt pc 67) (cond (Nat.beq pc 66) (some (.imul, 1)) none) (cond (Nat.blt pc 68) (cond (Nat.beq pc 67) (some (.iload 1, 1)) none) (cond (Nat.beq pc 68) (some (.iadd, 1)) none)))) (cond (Nat.blt pc 73) (cond (Nat.blt pc 70) (cond (Nat.beq pc 69) (some (.iaload, 1)) none) (cond (Nat.blt pc 72) (cond (Nat.beq pc 70) (some (.istore 4, 2)) none) (cond (Nat.beq pc 72) (some (.sipush 0, 1)) none))) (cond (Nat.blt pc 75) (cond (Nat.beq pc 73) (some (.istore 5, 2)) none) (cond (Nat.blt pc 77) (cond (Nat.beq pc 75) (some (.iload 5, 2)) none) (cond (Nat.beq pc 77) (some (.sipush 7, 2)) none))))))) (cond (Nat.blt pc 128) (cond (Nat.blt pc 106) (cond (Nat.blt pc 93) (cond (Nat.blt pc 87) (cond (Nat.blt pc 82) (cond (Nat.beq pc 79) (some (.if_icmp .ge 162, 3)) none) (cond (Nat.blt pc 84) (cond (Nat.beq pc 82) (some (.iload 4, 2)) none) (cond (Nat.beq pc 84) (some (.ifCond .lt 162, 3)) none))) (cond (Nat.blt pc 88) (cond (Nat.beq pc 87) (some (.aload 0, 1)) none) (cond (Nat.blt pc 91) (cond (Nat.beq pc 88) (some (.getfield 97, 3)) none) (cond (Nat.beq pc 91) (some (.iload 4, 2)) none)))) (cond (Nat.blt pc 98) (cond (Nat.blt pc 94) (cond (Nat.beq pc 93) (some (.iaload, 1)) none) (cond (Nat.blt pc 96) (cond (Nat.beq pc 94) (some (.istore 6, 2)) none) (cond (Nat.beq pc 96) (some (.iload 6, 2)) none))) (cond (Nat.blt pc 101) (cond (Nat.beq pc 98) (some (.ifCond .eq 142, 3)) none) (cond (Nat.blt pc 103) (cond (Nat.beq pc 101) (some (.iload 5, 2)) none) (cond (Nat.beq pc 103) (some (.ifCond .ne 115, 3)) none))))) (cond (Nat.blt pc 120) (cond (Nat.blt pc 112) (cond (Nat.blt pc 109) (cond (Nat.beq pc 106) (some (.getstatic 3, 3)) none) (cond (Nat.blt pc 111) (cond (Nat.beq pc 109) (some (.iload 6, 2)) none) (cond (Nat.beq pc 111) (some (.iaload, 1)) none))) (cond (Nat.blt pc 115) (cond (Nat.beq pc 112) (some (.goto 121, 3)) none) (cond (Nat.blt pc 118) (cond (Nat.beq pc 115) (some (.getstatic 4, 3)) none) (cond (Nat.beq pc 118) (some (.iload 6, 2)) none)))) (cond (Nat.blt pc 125) (cond (Nat.blt pc 121) (cond (Nat.beq pc 120) (some (.iaload, 1)) none) (cond (Nat.blt pc 123) (cond (Nat.beq pc 121) (some (.istore 7, 2)) none) (cond (Nat.beq pc 123) (some (.iload 6, 2)) none))) (cond (Nat.blt pc 126) (cond (Nat.beq pc 125) (some (.sipush 3, 1)) none) (cond (Nat.blt pc 127) (cond (Nat.beq pc 126) (some (.ishr, 1)) none) (cond (Nat.beq pc 127) (some (.iload 2, 1)) none)))))) (cond (Nat.blt pc 148) (cond (Nat.blt pc 137) (cond (Nat.blt pc 134) (cond (Nat.blt pc 131) (cond (Nat.beq pc 128) (some (.if_icmp .ne 162, 3)) none) (cond (Nat.blt pc 133) (cond (Nat.beq pc 131) (some (.iload 7, 2)) none) (cond (Nat.beq pc 133) (some (.iload 3, 1)) none))) (cond (Nat.blt pc 135) (cond (Nat.beq pc 134) (some (.ishr, 1)) none) (cond (Nat.blt pc 136) (cond (Nat.beq pc 135) (some (.sipush 1, 1)) none) (cond (Nat.beq pc 136) (some (.iand, 1)) none)))) (cond (Nat.blt pc 142) (cond (Nat.blt pc 140) (cond (Nat.beq pc 137) (some (.ifCond .eq 162, 3)) none) (cond (Nat.blt pc 141) (cond (Nat.beq pc 140) (some (.sipush 1, 1)) none) (cond (Nat.beq pc 141) (some (.ireturn, 1)) none))) (cond (Nat.blt pc 143) (cond (Nat.beq pc 142) (some (.aload 0, 1)) none) (cond (Nat.blt pc 146) (cond (Nat.beq pc 143) (some (.getfield 96, 3)) none) (cond (Nat.beq pc 146) (some (.sipush 64, 2)) none))))) (cond (Nat.blt pc 156) (cond (Nat.blt pc 152) (cond (Nat.blt pc 149) (cond (Nat.beq pc 148) (some (.iload 3, 1)) none) (cond (Nat.blt pc 150) (cond (Nat.beq pc 149) (some (.imul, 1)) none) (cond (Nat.beq pc 150) (some (.iload 4, 2)) none))) (cond (Nat.blt pc 153) (cond (Nat.beq pc 152) (some (.iadd, 1)) none) (cond (Nat.blt pc 154) (cond (Nat.beq pc 153) (some (.iaload, 1)) none) (cond (Nat.beq pc 154) (some (.istore 4, 2)) none)))) (cond (Nat.blt pc 165) (cond (Nat.blt pc 159) (cond (Nat.beq pc 156) (some (.iinc 5 1, 3)) none) (cond (Nat.blt pc 162) (cond (Nat.beq pc 159) (some (.goto 75, 3)) none) (cond (Nat.beq pc 162) (some (.iinc 3 1, 3)) none))) (cond (Nat.blt pc 168) (cond (Nat.beq pc 165) (some (.goto 53, 3)) none) (cond (Nat.blt pc 169) (cond (Nat.beq pc 168) (some (.sipush 0, 1)) none) (cond (Nat.beq pc 169) (some (.ireturn, 1)) none)))))))
def cd_Board_make (pc : Nat) : Option (Instr × Nat) :=
  cond (Nat.blt pc 149) (cond (Nat.blt pc 73) (cond (Nat.blt pc 33) (cond (Nat.blt pc 16) (cond (Nat.blt pc 10) (cond (Nat.blt pc 4) (cond (Nat.blt pc 1) (cond (Nat.beq pc 0) (some (.aload 0, 1)) none) (cond (Nat.beq pc 1) (some (.getfield 103, 3)) none)) (cond (Nat.blt pc 6) (cond (Nat.beq pc 4) (some (.sipush 16, 2)) none) (cond (Nat.blt pc 9) (cond (Nat.beq pc 6) (some (.if_icmp .lt 10, 3)) none) (cond (Nat.beq pc 9) (some (.return_, 1)) none)))) (cond (Nat.blt pc 13) (cond (Nat.blt pc 11) (cond (Nat.beq pc 10) (some (.iload 1, 1)) none) (cond (Nat.beq pc 11) (some (.sipush 63, 2)) none)) (cond (Nat.blt pc 14) (cond (Nat.beq pc 13) (some (.iand, 1)) none) (cond (Nat.blt pc 15) (cond (Nat.beq pc 14) (some (.istore 2, 1)) none) (cond (Nat.beq pc 15) (some (.iload 1, 1)) none))))) (cond (Nat.blt pc 23) (cond (Nat.blt pc 19) (cond (Nat.blt pc 18) (cond (Nat.beq pc 16) (some (.sipush 6, 2)) none) (cond (Nat.beq pc 18) (some (.ishr, 1)) none)) (cond (Nat.blt pc 21) (cond (Nat.beq pc 19) (some (.sipush 63, 2)) none) (cond (Nat.blt pc 22) (cond (Nat.beq pc 21) (some (.iand, 1)) none) (cond (Nat.beq pc 22) (some (.istore 3, 1)) none)))) (cond (Nat.blt pc 27) (cond (Nat.blt pc 24) (cond (Nat.beq pc 23) (some (.iload 1, 1)) none) (cond (Nat.blt pc 26) (cond (Nat.beq pc 24) (some (.sipush 12, 2)) none) (cond (Nat.beq pc 26) (some (.ishr, 1)) none))) (cond (Nat.blt pc 29) (cond (Nat.beq pc 27) (some (.istore 4, 2)) none) (cond (Nat.blt pc 30) (cond (Nat.beq pc 29) (some (.aload 0, 1)) none) (cond (Nat.beq pc 30) (some (.getfield 97, 3)) none)))))) (cond (Nat.blt pc 51) (cond (Nat.blt pc 41) (cond (Nat.blt pc 35) (cond (Nat.blt pc 34) (cond (Nat.beq pc 33) (some (.iload 2, 1)) none) (cond (Nat.beq pc 34) (some (.iaload, 1)) none)) (cond (Nat.blt pc 37) (cond (Nat.beq pc 35) (some (.istore 5, 2)) none) (cond (Nat.blt pc 39) (cond (Nat.beq pc 37) (some (.iload 5, 2)) none) (cond (Nat.beq pc 39) (some (.sipush 7, 2)) none)))) (cond (Nat.blt pc 46) (cond (Nat.blt pc 42) (cond (Nat.beq pc 41) (some (.iand, 1)) none) (cond (Nat.blt pc 43) (cond (Nat.beq pc 42) (some (.sipush 1, 1)) none) (cond (Nat.beq pc 43) (some (.if_icmp .ne 50, 3)) none))) (cond (Nat.blt pc 47) (cond (Nat.beq pc 46) (some (.sipush 1, 1)) none) (cond (Nat.blt pc 50) (cond (Nat.beq pc 47) (some (.goto 51, 3)) none) (cond (Nat.beq pc 50) (some (.sipush 0, 1)) none))))) (cond (Nat.blt pc 60) (cond (Nat.blt pc 55) (cond (Nat.blt pc 53) (cond (Nat.beq pc 51) (some (.istore 6, 2)) none) (cond (Nat.beq pc 53) (some (.iload 6, 2)) none)) (cond (Nat.blt pc 58) (cond (Nat.beq pc 55) (some (.ifCond .eq 73, 3)) none) (cond (Nat.blt pc 59) (cond (Nat.beq pc 58) (some (.iload 3, 1)) none) (cond (Nat.beq pc 59) (some (.aload 0, 1)) none)))) (cond (Nat.blt pc 67) (cond (Nat.blt pc 63) (cond (Nat.beq pc 60) (some (.getfield 102, 3)) none) (cond (Nat.blt pc 66) (cond (Nat.beq pc 63) (some (.if_icmp .ne 73, 3)) none) (cond (Nat.beq pc 66) (some (.iload 3, 1)) none))) (cond (Nat.blt pc 69) (cond (Nat.beq pc 67) (some (.sipush 8, 2)) none) (cond (Nat.blt pc 70) (cond (Nat.beq pc 69) (some (.ixor, 1)) none) (cond (Nat.beq pc 70) (some (.goto 74, 3)) none))))))) (cond (Nat.blt pc 110) (cond (Nat.blt pc 90) (cond (Nat.blt pc 81) (cond (Nat.blt pc 76) (cond (Nat.blt pc 74) (cond (Nat.beq pc 73) (some (.iload 3, 1)) none) (cond (Nat.beq pc 74) (some (.istore 7, 2)) none)) (cond (Nat.blt pc 77) (cond (Nat.beq pc 76) (some (.aload 0, 1)) none) (cond (Nat.blt pc 80) (cond (Nat.beq pc 77) (some (.getfield 104, 3)) none) (cond (Nat.beq pc 80) (some (.aload 0, 1)) none)))) (cond (Nat.blt pc 85) (cond (Nat.blt pc 84) (cond (Nat.beq pc 81) (some (.getfield 103, 3)) none) (cond (Nat.beq pc 84) (some (.iload 1, 1)) none)) (cond (Nat.blt pc 86) (cond (Nat.beq pc 85) (some (.iastore, 1)) none) (cond (Nat.blt pc 87) (cond (Nat.beq pc 86) (some (.aload 0, 1)) none) (cond (Nat.beq pc 87) (some (.getfield 105, 3)) none))))) (cond (Nat.blt pc 100) (cond (Nat.blt pc 94) (cond (Nat.blt pc 91) (cond (Nat.beq pc 90) (some (.aload 0, 1)) none) (cond (Nat.beq pc 91) (some (.getfield 103, 3)) none)) (cond (Nat.blt pc 95) (cond (Nat.beq pc 94) (some (.aload 0, 1)) none) (cond (Nat.blt pc 98) (cond (Nat.beq pc 95) (some (.getfield 97, 3)) none) (cond (Nat.beq pc 98) (some (.iload 7, 2)) none)))) (cond (Nat.blt pc 103) (cond (Nat.blt pc 101) (cond (Nat.beq pc 100) (some (.iaload, 1)) none) (cond (Nat.blt pc 102) (cond (Nat.beq pc 101) (some (.iastore, 1)) none) (cond (Nat.beq pc 102) (some (.aload 0, 1)) none))) (cond (Nat.blt pc 106) (cond (Nat.beq pc 103) (some (.getfield 106, 3)) none) (cond (Nat.blt pc 107) (cond (Nat.beq pc 106) (some (.aload 0, 1)) none) (cond (Nat.beq pc 107) (some (.getfield 103, 3)) none)))))) (cond (Nat.blt pc 130) (cond (Nat.blt pc 118) (cond (Nat.blt pc 113) (cond (Nat.blt pc 112) (cond (Nat.beq pc 110) (some (.iload 7, 2)) none) (cond (Nat.beq pc 112) (some (.iastore, 1)) none)) (cond (Nat.blt pc 114) (cond (Nat.beq pc 113) (some (.aload 0, 1)) none) (cond (Nat.blt pc 117) (cond (Nat.beq pc 114) (some (.getfield 107, 3)) none) (cond (Nat.beq pc 117) (some (.aload 0, 1)) none)))) (cond (Nat.blt pc 125) (cond (Nat.blt pc 121) (cond (Nat.beq pc 118) (some (.getfield 103, 3)) none) (cond (Nat.blt pc 122) (cond (Nat.beq pc 121) (some (.aload 0, 1)) none) (cond (Nat.beq pc 122) (some (.getfield 101, 3)) none))) (cond (Nat.blt pc 126) (cond (Nat.beq pc 125) (some (.iastore, 1)) none) (cond (Nat.blt pc 127) (cond (Nat.beq pc 126) (some (.aload 0, 1)) none) (cond (Nat.beq pc 127) (some (.getfield 108, 3)) none))))) (cond (Nat.blt pc 139) (cond (Nat.blt pc 134) (cond (Nat.blt pc 131) (cond (Nat.beq pc 130) (some (.aload 0, 1)) none) (cond (Nat.beq pc 131) (some (.getfield 103, 3)) none)) (cond (Nat.blt pc 135) (cond (Nat.beq pc 134) (some (.aload 0, 1)) none) (cond (Nat.blt pc 138) (cond (Nat.beq pc 135) (some (.getfield 102, 3)) none) (cond (Nat.beq pc 138) (some (.iastore, 1)) none)))) (cond (Nat.blt pc 144) (cond (Nat.blt pc 140) (cond (Nat.beq pc 139) (some (.aload 0, 1)) none) (cond (Nat.blt pc 141) (cond (Nat.beq pc 140) (some (.dup, 1)) none) (cond (Nat.beq pc 141) (some (.getfield 103, 3)) none))) (cond (Nat.blt pc 145) (cond (Nat.beq pc 144) (some (.sipush 1, 1)) none) (cond (Nat.blt pc 146) (cond (Nat.beq pc 145) (some (.iadd, 1)) none) (cond (Nat.beq pc 146) (some (.putfield 103, 3)) none)))))))) (cond (Nat.blt pc 226) (cond (Nat.blt pc 189) (cond (Nat.blt pc 167) (cond (Nat.blt pc 157) (cond (Nat.blt pc 152) (cond (Nat.blt pc 150) (cond (Nat.beq pc 149) (some (.aload 0, 1)) none) (cond (Nat.beq pc 150) (some (.iload 7, 2)) none)) (cond (Nat.blt pc 155) (cond (Nat.beq pc 152) (some (.invokestatic k_Board_lift, 3)) none) (cond (Nat.blt pc 156) (cond (Nat.beq pc 155) (some (.aload 0, 1)) none) (cond (Nat.beq pc 156) (some (.iload 2, 1)) none)))) (cond (Nat.blt pc 161) (cond (Nat.blt pc 160) (cond (Nat.beq pc 157) (some (.invokestatic k_Board_lift, 3)) none) (cond (Nat.beq pc 160) (some (.aload 0, 1)) none)) (cond (Nat.blt pc 162) (cond (Nat.beq pc 161) (some (.iload 3, 1)) none) (cond (Nat.blt pc 164) (cond (Nat.beq pc 162) (some (.iload 4, 2)) none) (cond (Nat.beq pc 164) (some (.ifCond .ne 172, 3)) none))))) (cond (Nat.blt pc 177) (cond (Nat.blt pc 172) (cond (Nat.blt pc 169) (cond (Nat.beq pc 167) (some (.iload 5, 2)) none) (cond (Nat.beq pc 169) (some (.goto 182, 3)) none)) (cond (Nat.blt pc 174) (cond (Nat.beq pc 172) (some (.iload 4, 2)) none) (cond (Nat.blt pc 176) (cond (Nat.beq pc 174) (some (.sipush 8, 2)) none) (cond (Nat.beq pc 176) (some (.aload 0, 1)) none)))) (cond (Nat.blt pc 182) (cond (Nat.blt pc 180) (cond (Nat.beq pc 177) (some (.getfield 100, 3)) none) (cond (Nat.blt pc 181) (cond (Nat.beq pc 180) (some (.imul, 1)) none) (cond (Nat.beq pc 181) (some (.iadd, 1)) none))) (cond (Nat.blt pc 185) (cond (Nat.beq pc 182) (some (.invokestatic k_Board_put, 3)) none) (cond (Nat.blt pc 187) (cond (Nat.beq pc 185) (some (.iload 5, 2)) none) (cond (Nat.beq pc 187) (some (.sipush 7, 2)) none)))))) (cond (Nat.blt pc 207) (cond (Nat.blt pc 199) (cond (Nat.blt pc 192) (cond (Nat.blt pc 190) (cond (Nat.beq pc 189) (some (.iand, 1)) none) (cond (Nat.beq pc 190) (some (.sipush 6, 2)) none)) (cond (Nat.blt pc 195) (cond (Nat.beq pc 192) (some (.if_icmp .ne 212, 3)) none) (cond (Nat.blt pc 196) (cond (Nat.beq pc 195) (some (.aload 0, 1)) none) (cond (Nat.beq pc 196) (some (.getfield 99, 3)) none)))) (cond (Nat.blt pc 204) (cond (Nat.blt pc 200) (cond (Nat.beq pc 199) (some (.aload 0, 1)) none) (cond (Nat.blt pc 203) (cond (Nat.beq pc 200) (some (.getfield 100, 3)) none) (cond (Nat.beq pc 203) (some (.iload 3, 1)) none))) (cond (Nat.blt pc 205) (cond (Nat.beq pc 204) (some (.iastore, 1)) none) (cond (Nat.blt pc 206) (cond (Nat.beq pc 205) (some (.aload 0, 1)) none) (cond (Nat.beq pc 206) (some (.iload 2, 1)) none))))) (cond (Nat.blt pc 214) (cond (Nat.blt pc 209) (cond (Nat.blt pc 208) (cond (Nat.beq pc 207) (some (.iload 3, 1)) none) (cond (Nat.beq pc 208) (some (.sipush 1, 1)) none)) (cond (Nat.blt pc 212) (cond (Nat.beq pc 209) (some (.invokestatic k_Board_castleRook, 3)) none) (cond (Nat.blt pc 213) (cond (Nat.beq pc 212) (some (.aload 0, 1)) none) (cond (Nat.beq pc 213) (some (.dup, 1)) none)))) (cond (Nat.blt pc 221) (cond (Nat.blt pc 217) (cond (Nat.beq pc 214) (some (.getfield 101, 3)) none) (cond (Nat.blt pc 220) (cond (Nat.beq pc 217) (some (.getstatic 5, 3)) none) (cond (Nat.beq pc 220) (some (.iload 2, 1)) none))) (cond (Nat.blt pc 222) (cond (Nat.beq pc 221) (some (.iaload, 1)) none) (cond (Nat.blt pc 225) (cond (Nat.beq pc 222) (some (.getstatic 5, 3)) none) (cond (Nat.beq pc 225) (some (.iload 3, 1)) none))))))) (cond (Nat.blt pc 258) (cond (Nat.blt pc 241) (cond (Nat.blt pc 231) (cond (Nat.blt pc 228) (cond (Nat.blt pc 227) (cond (Nat.beq pc 226) (some (.iaload, 1)) none) (cond (Nat.beq pc 227) (some (.ior, 1)) none)) (cond (Nat.blt pc 229) (cond (Nat.beq pc 228) (some (.sipush (-1), 1)) none) (cond (Nat.blt pc 230) (cond (Nat.beq pc 229) (some (.ixor, 1)) none) (cond (Nat.beq pc 230) (some (.iand, 1)) none)))) (cond (Nat.blt pc 236) (cond (Nat.blt pc 234) (cond (Nat.beq pc 231) (some (.putfield 101, 3)) none) (cond (Nat.blt pc 235) (cond (Nat.beq pc 234) (some (.aload 0, 1)) none) (cond (Nat.beq pc 235) (some (.sipush 1, 1)) none))) (cond (Nat.blt pc 237) (cond (Nat.beq pc 236) (some (.aload 0, 1)) none) (cond (Nat.blt pc 240) (cond (Nat.beq pc 237) (some (.getfield 100, 3)) none) (cond (Nat.beq pc 240) (some (.isub, 1)) none))))) (cond (Nat.blt pc 248) (cond (Nat.blt pc 245) (cond (Nat.blt pc 244) (cond (Nat.beq pc 241) (some (.putfield 100, 3)) none) (cond (Nat.beq pc 244) (some (.iload 2, 1)) none)) (cond (Nat.blt pc 246) (cond (Nat.beq pc 245) (some (.iload 3, 1)) none) (cond (Nat.blt pc 247) (cond (Nat.beq pc 246) (some (.iadd, 1)) none) (cond (Nat.beq pc 247) (some (.sipush 1, 1)) none)))) (cond (Nat.blt pc 253) (cond (Nat.blt pc 249) (cond (Nat.beq pc 248) (some (.ishr, 1)) none) (cond (Nat.blt pc 251) (cond (Nat.beq pc 249) (some (.istore 8, 2)) none) (cond (Nat.beq pc 251) (some (.iload 6, 2)) none))) (cond (Nat.blt pc 256) (cond (Nat.beq pc 253) (some (.ifCond .eq 271, 3)) none) (cond (Nat.blt pc 257) (cond (Nat.beq pc 256) (some (.iload 3, 1)) none) (cond (Nat.beq pc 257) (some (.iload 2, 1)) none)))))) (cond (Nat.blt pc 280) (cond (Nat.blt pc 268) (cond (Nat.blt pc 262) (cond (Nat.blt pc 259) (cond (Nat.beq pc 258) (some (.isub, 1)) none) (cond (Nat.beq pc 259) (some (.f2i, 3)) none)) (cond (Nat.blt pc 264) (cond (Nat.beq pc 262) (some (.sipush 16, 2)) none) (cond (Nat.blt pc 267) (cond (Nat.beq pc 264) (some (.if_icmp .ne 271, 3)) none) (cond (Nat.beq pc 267) (some (.sipush 1, 1)) none)))) (cond (Nat.blt pc 274) (cond (Nat.blt pc 271) (cond (Nat.beq pc 268) (some (.goto 272, 3)) none) (cond (Nat.blt pc 272) (cond (Nat.beq pc 271) (some (.sipush 0, 1)) none) (cond (Nat.beq pc 272) (some (.istore 9, 2)) none))) (cond (Nat.blt pc 275) (cond (Nat.beq pc 274) (some (.aload 0, 1)) none) (cond (Nat.blt pc 277) (cond (Nat.beq pc 275) (some (.iload 9, 2)) none) (cond (Nat.beq pc 277) (some (.ifCond .eq 298, 3)) none))))) (cond (Nat.blt pc 290) (cond (Nat.blt pc 283) (cond (Nat.blt pc 281) (cond (Nat.beq pc 280) (some (.aload 0, 1)) none) (cond (Nat.beq pc 281) (some (.iload 8, 2)) none)) (cond (Nat.blt pc 284) (cond (Nat.beq pc 283) (some (.aload 0, 1)) none) (cond (Nat.blt pc 287) (cond (Nat.beq pc 284) (some (.getfield 100, 3)) none) (cond (Nat.beq pc 287) (some (.invokestatic k_Board_pawnAttacks, 3)) none)))) (cond (Nat.blt pc 298) (cond (Nat.blt pc 293) (cond (Nat.beq pc 290) (some (.ifCond .eq 298, 3)) none) (cond (Nat.blt pc 295) (cond (Nat.beq pc 293) (some (.iload 8, 2)) none) (cond (Nat.beq pc 295) (some (.goto 299, 3)) none))) (cond (Nat.blt pc 299) (cond (Nat.beq pc 298) (some (.sipush (-1), 1)) none) (cond (Nat.blt pc 302) (cond (Nat.beq pc 299) (some (.putfield 102, 3)) none) (cond (Nat.beq pc 302) (some (.return_, 1)) none))))))))
def cd_Board_pawnAttacks (pc : Nat) : Option (Instr × Nat) :=
  cond (Nat.blt pc 42) (cond (Nat.blt pc 20) (cond (Nat.blt pc 7) (cond (Nat.blt pc 4) (cond (Nat.blt pc 1) (cond (Nat.beq pc 0) (some (.sipush 1, 1)) none) (cond (Nat.blt pc 3) (cond (Nat.beq pc 1) (some (.sipush 8, 2)) none) (cond (Nat.beq pc 3) (some (.iload 2, 1)) none))) (cond (Nat.blt pc 5) (cond (Nat.beq pc 4) (some (.imul, 1)) none) (cond (Nat.blt pc 6) (cond (Nat.beq pc 5) (some (.iadd, 1)) none) (cond (Nat.beq pc 6) (some (.istore 3, 1)) none)))) (cond (Nat.blt pc 13) (cond (Nat.blt pc 8) (cond (Nat.beq pc 7) (some (.iload 2, 1)) none) (cond (Nat.blt pc 11) (cond (Nat.beq pc 8) (some (.ifCond .ne 16, 3)) none) (cond (Nat.beq pc 11) (some (.sipush 6, 2)) none))) (cond (Nat.blt pc 17) (cond (Nat.blt pc 16) (cond (Nat.beq pc 13) (some (.goto 17, 3)) none) (cond (Nat.beq pc 16) (some (.sipush 4, 1)) none)) (cond (Nat.blt pc 19) (cond (Nat.beq pc 17) (some (.istore 4, 2)) none) (cond (Nat.beq pc 19) (some (.aload 0, 1)) none))))) (cond (Nat.blt pc 30) (cond (Nat.blt pc 27) (cond (Nat.blt pc 23) (cond (Nat.beq pc 20) (some (.getfield 96, 3)) none) (cond (Nat.blt pc 25) (cond (Nat.beq pc 23) (some (.sipush 64, 2)) none) (cond (Nat.beq pc 25) (some (.iload 4, 2)) none))) (cond (Nat.blt pc 28) (cond (Nat.beq pc 27) (some (.imul, 1)) none) (cond (Nat.blt pc 29) (cond (Nat.beq pc 28) (some (.iload 1, 1)) none) (cond (Nat.beq pc 29) (some (.iadd, 1)) none)))) (cond (Nat.blt pc 34) (cond (Nat.blt pc 31) (cond (Nat.beq pc 30) (some (.iaload, 1)) none) (cond (Nat.blt pc 33) (cond (Nat.beq pc 31) (some (.istore 5, 2)) none) (cond (Nat.beq pc 33) (some (.aload 0, 1)) none))) (cond (Nat.blt pc 39) (cond (Nat.blt pc 37) (cond (Nat.beq pc 34) (some (.getfield 96, 3)) none) (cond (Nat.beq pc 37) (some (.sipush 64, 2)) none)) (cond (Nat.blt pc 41) (cond (Nat.beq pc 39) (some (.iload 4, 2)) none) (cond (Nat.beq pc 41) (some (.sipush 1, 1)) none)))))) (cond (Nat.blt pc 62) (cond (Nat.blt pc 49) (cond (Nat.blt pc 45) (cond (Nat.blt pc 43) (cond (Nat.beq pc 42) (some (.iadd, 1)) none) (cond (Nat.blt pc 44) (cond (Nat.beq pc 43) (some (.imul, 1)) none) (cond (Nat.beq pc 44) (some (.iload 1, 1)) none))) (cond (Nat.blt pc 46) (cond (Nat.beq pc 45) (some (.iadd, 1)) none) (cond (Nat.blt pc 47) (cond (Nat.beq pc 46) (some (.iaload, 1)) none) (cond (Nat.beq pc 47) (some (.istore 6, 2)) none)))) (cond (Nat.blt pc 55) (cond (Nat.blt pc 51) (cond (Nat.beq pc 49) (some (.iload 5, 2)) none) (cond (Nat.blt pc 54) (cond (Nat.beq pc 51) (some (.ifCond .lt 65, 3)) none) (cond (Nat.beq pc 54) (some (.aload 0, 1)) none))) (cond (Nat.blt pc 60) (cond (Nat.blt pc 58) (cond (Nat.beq pc 55) (some (.getfield 97, 3)) none) (cond (Nat.beq pc 58) (some (.iload 5, 2)) none)) (cond (Nat.blt pc 61) (cond (Nat.beq pc 60) (some (.iaload, 1)) none) (cond (Nat.beq pc 61) (some (.iload 3, 1)) none))))) (cond (Nat.blt pc 76) (cond (Nat.blt pc 70) (cond (Nat.blt pc 65) (cond (Nat.beq pc 62) (some (.if_icmp .eq 81, 3)) none) (cond (Nat.blt pc 67) (cond (Nat.beq pc 65) (some (.iload 6, 2)) none) (cond (Nat.beq pc 67) (some (.ifCond .lt 85, 3)) none))) (cond (Nat.blt pc 71) (cond (Nat.beq pc 70) (some (.aload 0, 1)) none) (cond (Nat.blt pc 74) (cond (Nat.beq pc 71) (some (.getfield 97, 3)) none) (cond (Nat.beq pc 74) (some (.iload 6, 2)) none)))) (cond (Nat.blt pc 81) (cond (Nat.blt pc 77) (cond (Nat.beq pc 76) (some (.iaload, 1)) none) (cond (Nat.blt pc 78) (cond (Nat.beq pc 77) (some (.iload 3, 1)) none) (cond (Nat.beq pc 78) (some (.if_icmp .ne 85, 3)) none))) (cond (Nat.blt pc 85) (cond (Nat.blt pc 82) (cond (Nat.beq pc 81) (some (.sipush 1, 1)) none) (cond (Nat.beq pc 82) (some (.goto 86, 3)) none)) (cond (Nat.blt pc 86) (cond (Nat.beq pc 85) (some (.sipush 0, 1)) none) (cond (Nat.beq pc 86) (some (.ireturn, 1)) none))))))
def cd_Board_put (pc : Nat) : Option (Instr × Nat) :=
  cond (Nat.blt pc 13) (cond (Nat.blt pc 6) (cond (Nat.blt pc 4) (cond (Nat.blt pc 1) (cond (Nat.beq pc 0) (some (.aload 0, 1)) none) (cond (Nat.beq pc 1) (some (.getfield 97, 3)) none)) (cond (Nat.blt pc 5) (cond (Nat.beq pc 4) (some (.iload 1, 1)) none) (cond (Nat.beq pc 5) (some (.iload 2, 1)) none))) (cond (Nat.blt pc 8) (cond (Nat.blt pc 7) (cond (Nat.beq pc 6) (some (.iastore, 1)) none) (cond (Nat.beq pc 7) (some (.aload 0, 1)) none)) (cond (Nat.blt pc 11) (cond (Nat.beq pc 8) (some (.getfield 98, 3)) none) (cond (Nat.blt pc 12) (cond (Nat.beq pc 11) (some (.iload 2, 1)) none) (cond (Nat.beq pc 12) (some (.sipush 3, 1)) none))))) (cond (Nat.blt pc 17) (cond (Nat.blt pc 15) (cond (Nat.blt pc 14) (cond (Nat.beq pc 13) (some (.ishr, 1)) none) (cond (Nat.beq pc 14) (some (.dup2, 1)) none)) (cond (Nat.blt pc 16) (cond (Nat.beq pc 15) (some (.laload, 1)) none) (cond (Nat.beq pc 16) (some (.jsr_w 1, 1)) none))) (cond (Nat.blt pc 19) (cond (Nat.blt pc 18) (cond (Nat.beq pc 17) (some (.iload 1, 1)) none) (cond (Nat.beq pc 18) (some (.lshl, 1)) none)) (cond (Nat.blt pc 20) (cond (Nat.beq pc 19) (some (.lor, 1)) none) (cond (Nat.blt pc 21) (cond (Nat.beq pc 20) (some (.lastore, 1)) none) (cond (Nat.beq pc 21) (some (.return_, 1)) none)))))
def cd_Board_castleRook (pc : Nat) : Option (Instr × Nat) :=
  cond (Nat.blt pc 38) (cond (Nat.blt pc 18) (cond (Nat.blt pc 10) (cond (Nat.blt pc 3) (cond (Nat.blt pc 1) (cond (Nat.beq pc 0) (some (.iload 2, 1)) none) (cond (Nat.blt pc 2) (cond (Nat.beq pc 1) (some (.iload 1, 1)) none) (cond (Nat.beq pc 2) (some (.isub, 1)) none))) (cond (Nat.blt pc 6) (cond (Nat.beq pc 3) (some (.f2i, 3)) none) (cond (Nat.blt pc 7) (cond (Nat.beq pc 6) (some (.sipush 2, 1)) none) (cond (Nat.beq pc 7) (some (.if_icmp .eq 11, 3)) none)))) (cond (Nat.blt pc 13) (cond (Nat.blt pc 11) (cond (Nat.beq pc 10) (some (.return_, 1)) none) (cond (Nat.blt pc 12) (cond (Nat.beq pc 11) (some (.iload 1, 1)) none) (cond (Nat.beq pc 12) (some (.iload 2, 1)) none))) (cond (Nat.blt pc 14) (cond (Nat.beq pc 13) (some (.iload 1, 1)) none) (cond (Nat.blt pc 17) (cond (Nat.beq pc 14) (some (.if_icmp .le 21, 3)) none) (cond (Nat.beq pc 17) (some (.sipush 3, 1)) none))))) (cond (Nat.blt pc 28) (cond (Nat.blt pc 24) (cond (Nat.blt pc 21) (cond (Nat.beq pc 18) (some (.goto 23, 3)) none) (cond (Nat.blt pc 23) (cond (Nat.beq pc 21) (some (.sipush (-4), 2)) none) (cond (Nat.beq pc 23) (some (.iadd, 1)) none))) (cond (Nat.blt pc 26) (cond (Nat.beq pc 24) (some (.istore 4, 2)) none) (cond (Nat.blt pc 27) (cond (Nat.beq pc 26) (some (.iload 1, 1)) none) (cond (Nat.beq pc 27) (some (.iload 2, 1)) none)))) (cond (Nat.blt pc 31) (cond (Nat.blt pc 29) (cond (Nat.beq pc 28) (some (.iadd, 1)) none) (cond (Nat.blt pc 30) (cond (Nat.beq pc 29) (some (.sipush 1, 1)) none) (cond (Nat.beq pc 30) (some (.ishr, 1)) none))) (cond (Nat.blt pc 34) (cond (Nat.blt pc 33) (cond (Nat.beq pc 31) (some (.istore 5, 2)) none) (cond (Nat.beq pc 33) (some (.iload 3, 1)) none)) (cond (Nat.blt pc 37) (cond (Nat.beq pc 34) (some (.ifCond .eq 47, 3)) none) (cond (Nat.beq pc 37) (some (.aload 0, 1)) none)))))) (cond (Nat.blt pc 61) (cond (Nat.blt pc 51) (cond (Nat.blt pc 44) (cond (Nat.blt pc 41) (cond (Nat.beq pc 38) (some (.getfield 97, 3)) none) (cond (Nat.blt pc 43) (cond (Nat.beq pc 41) (some (.iload 4, 2)) none) (cond (Nat.beq pc 43) (some (.iaload, 1)) none))) (cond (Nat.blt pc 47) (cond (Nat.beq pc 44) (some (.goto 54, 3)) none) (cond (Nat.blt pc 48) (cond (Nat.beq pc 47) (some (.aload 0, 1)) none) (cond (Nat.beq pc 48) (some (.getfield 97, 3)) none)))) (cond (Nat.blt pc 56) (cond (Nat.blt pc 53) (cond (Nat.beq pc 51) (some (.iload 5, 2)) none) (cond (Nat.blt pc 54) (cond (Nat.beq pc 53) (some (.iaload, 1)) none) (cond (Nat.beq pc 54) (some (.istore 6, 2)) none))) (cond (Nat.blt pc 57) (cond (Nat.beq pc 56) (some (.aload 0, 1)) none) (cond (Nat.blt pc 58) (cond (Nat.beq pc 57) (some (.iload 3, 1)) none) (cond (Nat.beq pc 58) (some (.ifCond .eq 66, 3)) none))))) (cond (Nat.blt pc 73) (cond (Nat.blt pc 68) (cond (Nat.blt pc 63) (cond (Nat.beq pc 61) (some (.iload 4, 2)) none) (cond (Nat.blt pc 66) (cond (Nat.beq pc 63) (some (.goto 68, 3)) none) (cond (Nat.beq pc 66) (some (.iload 5, 2)) none))) (cond (Nat.blt pc 71) (cond (Nat.beq pc 68) (some (.invokestatic k_Board_lift, 3)) none) (cond (Nat.blt pc 72) (cond (Nat.beq pc 71) (some (.aload 0, 1)) none) (cond (Nat.beq pc 72) (some (.iload 3, 1)) none)))) (cond (Nat.blt pc 81) (cond (Nat.blt pc 76) (cond (Nat.beq pc 73) (some (.ifCond .eq 81, 3)) none) (cond (Nat.blt pc 78) (cond (Nat.beq pc 76) (some (.iload 5, 2)) none) (cond (Nat.beq pc 78) (some (.goto 83, 3)) none))) (cond (Nat.blt pc 85) (cond (Nat.blt pc 83) (cond (Nat.beq pc 81) (some (.iload 4, 2)) none) (cond (Nat.beq pc 83) (some (.iload 6, 2)) none)) (cond (Nat.blt pc 88) (cond (Nat.beq pc 85) (some (.invokestatic k_Board_put, 3)) none) (cond (Nat.beq pc 88) (some (.return_, 1)) none))))))
def cd_Board_lift (pc : Nat) : Option (Instr × Nat) :=
  cond (Nat.blt pc 15) (cond (Nat.blt pc 9) (cond (Nat.blt pc 4) (cond (Nat.blt pc 1) (cond (Nat.beq pc 0) (some (.aload 0, 1)) none) (cond (Nat.beq pc 1) (some (.getfield 98, 3)) none)) (cond (Nat.blt pc 5) (cond (Nat.beq pc 4) (some (.aload 0, 1)) none) (cond (Nat.blt pc 8) (cond (Nat.beq pc 5) (some (.getfield 97, 3)) none) (cond (Nat.beq pc 8) (some (.iload 1, 1)) none)))) (cond (Nat.blt pc 12) (cond (Nat.blt pc 10) (cond (Nat.beq pc 9) (some (.iaload, 1)) none) (cond (Nat.blt pc 11) (cond (Nat.beq pc 10) (some (.sipush 3, 1)) none) (cond (Nat.beq pc 11) (some (.ishr, 1)) none))) (cond (Nat.blt pc 13) (cond (Nat.beq pc 12) (some (.dup2, 1)) none) (cond (Nat.blt pc 14) (cond (Nat.beq pc 13) (some (.laload, 1)) none) (cond (Nat.beq pc 14) (some (.jsr_w 1, 1)) none))))) (cond (Nat.blt pc 23) (cond (Nat.blt pc 20) (cond (Nat.blt pc 16) (cond (Nat.beq pc 15) (some (.iload 1, 1)) none) (cond (Nat.blt pc 17) (cond (Nat.beq pc 16) (some (.lshl, 1)) none) (cond (Nat.beq pc 17) (some (.jsr_w (-1), 3)) none))) (cond (Nat.blt pc 21) (cond (Nat.beq pc 20) (some (.lxor, 1)) none) (cond (Nat.blt pc 22) (cond (Nat.beq pc 21) (some (.land, 1)) none) (cond (Nat.beq pc 22) (some (.lastore, 1)) none)))) (cond (Nat.blt pc 28) (cond (Nat.blt pc 24) (cond (Nat.beq pc 23) (some (.aload 0, 1)) none) (cond (Nat.blt pc 27) (cond (Nat.beq pc 24) (some (.getfield 97, 3)) none) (cond (Nat.beq pc 27) (some (.iload 1, 1)) none))) (cond (Nat.blt pc 29) (cond (Nat.beq pc 28) (some (.sipush 0, 1)) none) (cond (Nat.blt pc 30) (cond (Nat.beq pc 29) (some (.iastore, 1)) none) (cond (Nat.beq pc 30) (some (.return_, 1)) none)))))
def am_nm (ci : Nat) : String := cond (Nat.beq ci 5) "MateProblems$MoveRow" ""
def am_ft (j : Nat) : FieldType := .int
def am_rc (ci : Nat) : Bool := false
def am_rg (k : Nat) : Bool := false
def am_df (ci : Nat) : List Value := []
def am_cd (k pc : Nat) : Option (Instr × Nat) := cond (Nat.beq k 1) (cd_Board_attacked pc) (cond (Nat.beq k 2) (cd_Board_make pc) (cond (Nat.beq k 3) (cd_Board_pawnAttacks pc) (cond (Nat.beq k 4) (cd_Board_put pc) (cond (Nat.beq k 5) (cd_Board_castleRook pc) (cond (Nat.beq k 6) (cd_Board_lift pc) (none))))))
def am_np (k : Nat) : Nat := cond (Nat.beq k 1) (3) (cond (Nat.beq k 2) (2) (cond (Nat.beq k 3) (3) (cond (Nat.beq k 4) (3) (cond (Nat.beq k 5) (4) (cond (Nat.beq k 6) (2) (0))))))
def am_ml (k : Nat) : Nat := cond (Nat.beq k 1) (8) (cond (Nat.beq k 2) (10) (cond (Nat.beq k 3) (7) (cond (Nat.beq k 4) (3) (cond (Nat.beq k 5) (7) (cond (Nat.beq k 6) (2) (0))))))
def am_hd (k pc e : Nat) : Option (Nat × Nat) := none
def am_es (e : Nat) : Nat := 6
/-- one instruction that touches no local, calls and ends nothing. Operands are resolved ahead (am_cd): sipush any int constant; jsr_w any long constant; getfield, putfield 32 * kind + field; getstatic the place of what nobody writes; f2i Math.abs; jumps: the target itself -/
def am_o2 (k : Nat) (ins : Instr) (nx : Nat) (st : List Value) (h : am_H) : Option (Nat × List Value × am_H) :=
  match ins with
  | .sipush v => some (nx, .int (am_lit v) :: st, h)
  | .jsr_w v => some (nx, .long (am_litl v) :: st, h)
  | .aconst_null => some (nx, .null :: st, h)
  | .getstatic a => some (nx, .ref a :: st, h)
  | .goto t => some (t.toNat, st, h)
  | .iadd => match st with | .int y :: .int x :: st => some (nx, .int (x + y) :: st, h) | _ => none
  | .isub => match st with | .int y :: .int x :: st => some (nx, .int (x - y) :: st, h) | _ => none
  | .imul => match st with | .int y :: .int x :: st => some (nx, .int (x * y) :: st, h) | _ => none
  | .iand => match st with | .int y :: .int x :: st => some (nx, .int (x &&& y) :: st, h) | _ => none
  | .ior => match st with | .int y :: .int x :: st => some (nx, .int (x ||| y) :: st, h) | _ => none
  | .ixor => match st with | .int y :: .int x :: st => some (nx, .int (x ^^^ y) :: st, h) | _ => none
  | .ishl => match st with | .int y :: .int x :: st => some (nx, .int (x <<< (y &&& 31)) :: st, h) | _ => none
  | .ishr => match st with | .int y :: .int x :: st => some (nx, .int (x >>> (y &&& 31)) :: st, h) | _ => none
  | .iushr => match st with | .int y :: .int x :: st => some (nx, .int ((x.toUInt32 >>> (y.toUInt32 &&& Int32.toUInt32 31)).toInt32) :: st, h) | _ => none
  | .ladd => match st with | .long y :: .long x :: st => some (nx, .long (x + y) :: st, h) | _ => none
  | .lsub => match st with | .long y :: .long x :: st => some (nx, .long (x - y) :: st, h) | _ => none
  | .lmul => match st with | .long y :: .long x :: st => some (nx, .long (x * y) :: st, h) | _ => none
  | .land => match st with | .long y :: .long x :: st => some (nx, .long (x &&& y) :: st, h) | _ => none
  | .lor => match st with | .long y :: .long x :: st => some (nx, .long (x ||| y) :: st, h) | _ => none
  | .lxor => match st with | .long y :: .long x :: st => some (nx, .long (x ^^^ y) :: st, h) | _ => none
  | .lshl => match st with | .int y :: .long x :: st => some (nx, .long (am_shl x y) :: st, h) | _ => none
  | .lshr => match st with | .int y :: .long x :: st => some (nx, .long (am_shr x y) :: st, h) | _ => none
  | .lushr => match st with | .int y :: .long x :: st => some (nx, .long (am_ushr x y) :: st, h) | _ => none
  | .ineg => match st with | .int x :: st => some (nx, .int (-x) :: st, h) | _ => none
  | .lneg => match st with | .long x :: st => some (nx, .long (-x) :: st, h) | _ => none
  | .i2l => match st with | .int x :: st => some (nx, .long (x.toInt64) :: st, h) | _ => none
  | .l2i => match st with | .long x :: st => some (nx, .int (x.toInt32) :: st, h) | _ => none
  | .i2c => match st with | .int x :: st => some (nx, .int (am_i2c x) :: st, h) | _ => none
  | .i2b => match st with | .int x :: st => some (nx, .int (x.toInt8.toInt32) :: st, h) | _ => none
  | .f2i => match st with | .int x :: st => some (nx, .int (am_abs x) :: st, h) | _ => none
  | .idiv => match st with | .int y :: .int x :: st => cond (decide (y = 0)) none (some (nx, .int (x / y) :: st, h)) | _ => none
  | .irem => match st with | .int y :: .int x :: st => cond (decide (y = 0)) none (some (nx, .int (x - x / y * y) :: st, h)) | _ => none
  | .lcmp => match st with | .long y :: .long x :: st => some (nx, .int (lg_cmp x y) :: st, h) | _ => none
  | .dup => match st with | .int x :: st => some (nx, .int x :: .int x :: st, h) | .ref x :: st => some (nx, .ref x :: .ref x :: st, h) | _ => none
  | .pop => match st with | .int _ :: st => some (nx, st, h) | .ref _ :: st => some (nx, st, h) | _ => none
  | .dup_x1 => match st with | .int x :: .ref y :: st => some (nx, .int x :: .ref y :: .int x :: st, h) | .int x :: .int y :: st => some (nx, .int x :: .int y :: .int x :: st, h) | _ => none
  | .dup_x2 => match st with | .int x :: .int y :: .ref z :: st => some (nx, .int x :: .int y :: .ref z :: .int x :: st, h) | _ => none
  | .dup2 => match st with | .int x :: .ref y :: st => some (nx, .int x :: .ref y :: .int x :: .ref y :: st, h) | .long x :: st => some (nx, .long x :: .long x :: st, h) | _ => none
  | .ifCond c t => match st with | .int x :: st => cond (am_cond c x 0) (some (t.toNat, st, h)) (some (nx, st, h)) | _ => none
  | .if_icmp c t => match st with | .int y :: .int x :: st => cond (am_cond c x y) (some (t.toNat, st, h)) (some (nx, st, h)) | _ => none
  | .tableswitch d lo _ ts => match st with | .int x :: st => am_sw x (fun t => some (t, st, h)) d.toNat lo ts.toList | _ => none
  | .iaload => match st with
    | .int i :: .ref a :: st => match am_get h a with | some (.inr (.int, n, .inl f)) => cond (am_in i n) (some (nx, .int (f i.toNatClampNeg) :: st, h)) none | _ => none
    | _ => none
  | .caload => match st with
    | .int i :: .ref a :: st => match am_get h a with | some (.inr (.char, n, .inl f)) => cond (am_in i n) (some (nx, .int (f i.toNatClampNeg) :: st, h)) none | _ => none
    | _ => none
  | .laload => match st with
    | .int i :: .ref a :: st => match am_get h a with | some (.inr (.long, n, .inr (.inl f))) => cond (am_in i n) (some (nx, .long (f i.toNatClampNeg) :: st, h)) none | _ => none
    | _ => none
  | .baload => match st with
    | .int i :: .ref a :: st => match am_get h a with
      | some (.inr (.byte, n, .inl f)) => cond (am_in i n) (some (nx, .int (f i.toNatClampNeg) :: st, h)) none
      | some (.inr (.boolean, n, .inl f)) => cond (am_in i n) (some (nx, .int (f i.toNatClampNeg) :: st, h)) none
      | _ => none
    | _ => none
  | .aaload => match st with
    | .int i :: .ref a :: st => match am_get h a with | some (.inr (.object _, n, .inr (.inr (.inr (.inr f))))) => cond (am_in i n) (match f i.toNatClampNeg with | some q => some (nx, .ref q :: st, h) | none => none) none | _ => none
    | _ => none
  | .iastore => match st with
    | .int x :: .int i :: .ref a :: st => match am_get h a with | some (.inr (.int, n, .inl f)) => cond (Nat.blt a 100) none (cond (am_in i n) (some (nx, st, am_put h a (.inr (.int, n, .inl (upd f i.toNatClampNeg x))))) none) | _ => none
    | _ => none
  | .castore => match st with
    | .int x :: .int i :: .ref a :: st => match am_get h a with | some (.inr (.char, n, .inl f)) => cond (Nat.blt a 100) none (cond (am_in i n) (some (nx, st, am_put h a (.inr (.char, n, .inl (upd f i.toNatClampNeg (vp_nar .char x)))))) none) | _ => none
    | _ => none
  | .lastore => match st with
    | .long x :: .int i :: .ref a :: st => match am_get h a with | some (.inr (.long, n, .inr (.inl f))) => cond (Nat.blt a 100) none (cond (am_in i n) (some (nx, st, am_put h a (.inr (.long, n, .inr (.inl (vp_updL f i.toNatClampNeg x)))))) none) | _ => none
    | _ => none
  | .bastore => match st with
    | .int x :: .int i :: .ref a :: st => match am_get h a with
      | some (.inr (.byte, n, .inl f)) => cond (Nat.blt a 100) none (cond (am_in i n) (some (nx, st, am_put h a (.inr (.byte, n, .inl (upd f i.toNatClampNeg (vp_nar .byte x)))))) none)
      | some (.inr (.boolean, n, .inl f)) => cond (Nat.blt a 100) none (cond (am_in i n) (some (nx, st, am_put h a (.inr (.boolean, n, .inl (upd f i.toNatClampNeg (vp_nar .boolean x)))))) none)
      | _ => none
    | _ => none
  | .aastore => match st with
    | .ref v :: .int i :: .ref a :: st => match am_get h a with
      | some (.inr (.object C, n, .inr (.inr (.inr (.inr f))))) => match am_get h v with
        | some (.inl (ci, _)) => cond (Nat.blt a 100) none (cond (Nat.blt v 100) none (cond (decide (am_nm ci = C)) (cond (am_in i n) (some (nx, st, am_put h a (.inr (.object C, n, .inr (.inr (.inr (.inr (va_up f i.toNatClampNeg (some v))))))))) none) none))
        | _ => none
      | _ => none
    | _ => none
  | .arraylength => match st with
    | .ref a :: st => match am_get h a with | some (.inr (_, n, _)) => some (nx, .int (Int32.ofNat n) :: st, h) | _ => none
    | _ => none
  | .getfield j => match st with
    | .ref a :: st => match am_get h a with | some (.inl (ci, fs)) => cond (Nat.beq ci (j / 32)) (match am_nth fs (j % 32) with | some v => some (nx, v :: st, h) | none => none) none | _ => none
    | _ => none
  | .putfield j => match st with
    | v :: .ref a :: st => match am_get h a with | some (.inl (ci, fs)) => cond (Nat.blt a 100) none (cond (Nat.beq ci (j / 32)) (cond (am_fit (am_ft j) v) (some (nx, st, am_put h a (.inl (ci, fs.set (j % 32) v)))) none) none) | _ => none
    | _ => none
  | .new ci => (am_new h (am_rc ci) (.inl (ci, am_df ci)) (am_df ci).length).map (fun r => (nx, .ref r.1 :: st, r.2))
  | .newarray ty => match st with
    | .int n :: st => cond (decide (0 ≤ n.toInt ∧ n.toInt ≤ 65536)) ((am_new h (am_rg k) (match ty with | .int => .inr (.int, n.toNatClampNeg, .inl (fun _ => 0)) | .long => .inr (.long, n.toNatClampNeg, .inr (.inl (fun _ => 0))) | .char => .inr (.char, n.toNatClampNeg, .inl (fun _ => 0)) | .boolean => .inr (.boolean, n.toNatClampNeg, .inl (fun _ => 0)) | _ => .inr (.byte, n.toNatClampNeg, .inl (fun _ => 0))) n.toNatClampNeg).map (fun r => (nx, .ref r.1 :: st, r.2))) none
    | _ => none
  | .anewarray ci => match st with
    | .int n :: st => cond (decide (0 ≤ n.toInt ∧ n.toInt ≤ 65536)) ((am_new h (am_rg k) (.inr (.object (am_nm ci), n.toNatClampNeg, .inr (.inr (.inr (.inr (fun _ => none)))))) n.toNatClampNeg).map (fun r => (nx, .ref r.1 :: st, r.2))) none
    | _ => none
  | _ => none
/-- one instruction that calls and ends nothing -/
def am_o1 (k : Nat) (ins : Instr) (nx : Nat) (lv st : List Value) (h : am_H) : Option am_S :=
  match ins with
  | .iload i => match am_nth lv i with | some (.int x) => some (nx, lv, .int x :: st, h) | _ => none
  | .lload i => match am_nth lv i with | some (.long x) => some (nx, lv, .long x :: st, h) | _ => none
  | .aload i => match am_nth lv i with | some (.ref x) => some (nx, lv, .ref x :: st, h) | _ => none
  | .istore i => match st with | .int x :: st => some (nx, am_st1 lv i (.int x), st, h) | _ => none
  | .lstore i => match st with | .long x :: st => some (nx, am_st2 lv i (.long x), st, h) | _ => none
  | .astore i => match st with | .ref x :: st => some (nx, am_st1 lv i (.ref x), st, h) | _ => none
  | .iinc i c => match am_nth lv i with | some (.int x) => some (nx, am_st1 lv i (.int (x + am_lit c)), st, h) | _ => none
  | ins => (am_o2 k ins nx st h).map (fun r => (r.1, lv, r.2.1, r.2.2))
/-- a step, its continuation given -/
def am_stp (call : Nat → List Value → am_H → Option am_O) (k : Nat) (kk : am_S → Option am_O) (s : am_S) : Option am_O :=
  match am_cd k s.1 with
  | none => none
  | some (ins, len) => match ins with
    | .invokestatic j => match am_pop (am_np j) [] s.2.2.1 with
      | none => none
      | some (as, st) => cond (Nat.ble (am_wd st) 8) (match call j as s.2.2.2 with
        | none => none
        | some (.inl (some v), h) => kk (s.1 + len, s.2.1, v :: st, h)
        | some (.inl none, h) => kk (s.1 + len, s.2.1, st, h)
        | some (.inr e, h) => match am_hd k s.1 e with
          | some (t, i) => kk (t, am_st1 s.2.1 i am_ju, [], h)
          | none => some (.inr e, h)) none
    | .checkcast e => some (.inr e, (s.2.2.2.1, s.2.2.2.2.1, s.2.2.2.2.2.1, s.2.2.2.2.2.2.1 + 1, s.2.2.2.2.2.2.2 + am_es e))
    | .ireturn => match s.2.2.1 with | [.int x] => some (.inl (some (.int x)), s.2.2.2) | _ => none
    | .lreturn => match s.2.2.1 with | [.long x] => some (.inl (some (.long x)), s.2.2.2) | _ => none
    | .areturn => match s.2.2.1 with | [.ref x] => some (.inl (some (.ref x)), s.2.2.2) | _ => none
    | .return_ => match s.2.2.1 with | [] => some (.inl none, s.2.2.2) | _ => none
    | ins => (am_o1 k ins (s.1 + len) s.2.1 s.2.2.1 s.2.2.2).bind kk
/-- so many steps, then the continuation -/
def am_pw (call : Nat → List Value → am_H → Option am_O) (k : Nat) : Nat → (am_S → Option am_O) → am_S → Option am_O
  | 0, kk => kk
  | c + 1, kk => am_stp call k (am_pw call k c kk)
def am_rn (call : Nat → List Value → am_H → Option am_O) (k : Nat) : Nat → am_S → Option am_O
  | 0 => fun _ => none
  | n + 1 => am_stp call k (am_rn call k n)
def am_ent (k : Nat) (as : List Value) : List Value := am_args as ++ List.replicate (am_ml k - (am_args as).length) am_ju
/-- a call: at most d frames deep, n steps a frame -/
def am_cl : Nat → Nat → Nat → List Value → am_H → Option am_O
  | 0, _ => fun _ _ _ => none
  | d + 1, n => fun k as h => am_rn (am_cl d n) k n (0, am_ent k as, [], h)
theorem am_rn_pw (call : Nat → List Value → am_H → Option am_O) (k n : Nat) : ∀ c, am_rn call k (n + c) = am_pw call k c (am_rn call k n)
  | 0 => rfl
  | c + 1 => by
    show am_stp call k (am_rn call k (n + c)) = am_stp call k (am_pw call k c (am_rn call k n))
    rw [am_rn_pw call k n c]
/-- from s method k comes to the outcome o, with D frames below it to spend -/
def am_ev (D k : Nat) (s : am_S) (o : am_O) : Prop := ∃ N, ∀ d n m, D ≤ d → N ≤ n → N ≤ m → am_rn (am_cl d m) k n s = some o
/-- a call of method k comes to the outcome o -/
def am_cv (D k : Nat) (as : List Value) (h : am_H) (o : am_O) : Prop := ∃ N, ∀ d m, D ≤ d → N ≤ m → am_cl d m k as h = some o
theorem am_ev.mono {D D' k : Nat} {s : am_S} {o : am_O} (h : am_ev D k s o) (hD : D ≤ D') : am_ev D' k s o := by
  obtain ⟨N, h⟩ := h
  exact ⟨N, fun d n m hd hn hm => h d n m (Nat.le_trans hD hd) hn hm⟩
theorem am_cv.mono {D D' k : Nat} {as : List Value} {h : am_H} {o : am_O} (hc : am_cv D k as h o) (hD : D ≤ D') : am_cv D' k as h o := by
  obtain ⟨N, hc⟩ := hc
  exact ⟨N, fun d m hd hm => hc d m (Nat.le_trans hD hd) hm⟩
theorem am_cv.of {D k : Nat} {as : List Value} {h : am_H} {o : am_O} (he : am_ev D k (0, am_ent k as, [], h) o) : am_cv (D + 1) k as h o := by
  obtain ⟨N, he⟩ := he
  refine ⟨N, fun d m hd hm => ?_⟩
  obtain ⟨d', rfl⟩ : ∃ d', d = d' + 1 := ⟨d - 1, by omega⟩
  exact he d' m m (by omega) hm hm
theorem am_ev.fin {D k : Nat} {s : am_S} {o : am_O} (c : Nat) (hs : ∀ call kk, am_pw call k c kk s = some o) : am_ev D k s o := by
  refine ⟨c, fun d n m _ hn _ => ?_⟩
  obtain ⟨n', rfl⟩ : ∃ n', n = n' + c := ⟨n - c, by omega⟩
  rw [am_rn_pw, hs]
theorem am_ev.go {D k : Nat} {s s' : am_S} {o : am_O} (c : Nat) (hs : ∀ call kk, am_pw call k c kk s = kk s') (h : am_ev D k s' o) : am_ev D k s o := by
  obtain ⟨N, h⟩ := h
  refine ⟨N + c, fun d n m hd hn hm => ?_⟩
  obtain ⟨n', rfl⟩ : ∃ n', n = n' + c := ⟨n - c, by omega⟩
  rw [am_rn_pw, hs]
  exact h d n' m hd (by omega) (by omega)
/-- what a step without locals gives, with the locals again -/
def am_bk (lv : List Value) (x : Option (Nat × List Value × am_H)) (kk : am_S → Option am_O) : Option am_O := (x.map (fun r => (r.1, lv, r.2.1, r.2.2))).bind kk
theorem am_ev.bt {D k : Nat} {s : am_S} {o : am_O} {P : Prop} [Decidable P] (c pa pb : Nat) (lv st : List Value) (h : am_H) (hP : P) (hs : ∀ call kk, am_pw call k c kk s = am_bk lv (cond (decide P) (some (pa, st, h)) (some (pb, st, h))) kk) (hk : am_ev D k (pa, lv, st, h) o) : am_ev D k s o :=
  am_ev.go c (fun call kk => by rw [hs, decide_eq_true hP]; rfl) hk
theorem am_ev.bf {D k : Nat} {s : am_S} {o : am_O} {P : Prop} [Decidable P] (c pa pb : Nat) (lv st : List Value) (h : am_H) (hP : ¬ P) (hs : ∀ call kk, am_pw call k c kk s = am_bk lv (cond (decide P) (some (pa, st, h)) (some (pb, st, h))) kk) (hk : am_ev D k (pb, lv, st, h) o) : am_ev D k s o :=
  am_ev.go c (fun call kk => by rw [hs, decide_eq_false hP]; rfl) hk
theorem am_ev.ck {D k : Nat} {s : am_S} {o : am_O} {b : Bool} (c pa : Nat) (lv st : List Value) (h : am_H) (hb : b = true) (hs : ∀ call kk, am_pw call k c kk s = am_bk lv (cond b (some (pa, st, h)) none) kk) (hk : am_ev D k (pa, lv, st, h) o) : am_ev D k s o :=
  am_ev.go c (fun call kk => by rw [hs, hb]; rfl) hk
/-- a call that returns -/
theorem am_ev.call {D k j pc len : Nat} {lv st st' : List Value} {o : am_O} {as : List Value} {h h' : am_H} {v : Option Value} (hcd : am_cd k pc = some (.invokestatic j, len)) (hp : am_pop (am_np j) [] st = some (as, st')) (hw : Nat.ble (am_wd st') 8 = true) (hc : am_cv D j as h (.inl v, h')) (hk : am_ev D k (pc + len, lv, v.toList ++ st', h') o) : am_ev D k (pc, lv, st, h) o := by
  obtain ⟨N, hc⟩ := hc
  obtain ⟨M, hk⟩ := hk
  refine ⟨N + M + 1, fun d n m hd hn hm => ?_⟩
  obtain ⟨n', rfl⟩ : ∃ n', n = n' + 1 := ⟨n - 1, by omega⟩
  show am_stp (am_cl d m) k (am_rn (am_cl d m) k n') (pc, lv, st, h) = some o
  have h1 := hk d n' m hd (by omega) (by omega)
  simp only [am_stp, hcd, hp, hw, hc d m hd (by omega)]
  cases v <;> exact h1
/-- a call that throws, and nobody here catches -/
theorem am_ev.thrw {D k j pc len e : Nat} {lv st st' : List Value} {as : List Value} {h h' : am_H} (hcd : am_cd k pc = some (.invokestatic j, len)) (hp : am_pop (am_np j) [] st = some (as, st')) (hw : Nat.ble (am_wd st') 8 = true) (hh : am_hd k pc e = none) (hc : am_cv D j as h (.inr e, h')) : am_ev D k (pc, lv, st, h) (.inr e, h') := by
  obtain ⟨N, hc⟩ := hc
  refine ⟨N + 1, fun d n m hd hn hm => ?_⟩
  obtain ⟨n', rfl⟩ : ∃ n', n = n' + 1 := ⟨n - 1, by omega⟩
  show am_stp (am_cl d m) k (am_rn (am_cl d m) k n') (pc, lv, st, h) = some (.inr e, h')
  simp only [am_stp, hcd, hp, hw, hc d m hd (by omega), hh, cond_true]
theorem am_if {α : Type} {P : Prop} [Decidable P] {A B : Option α} {o : α} (h : (if P then A else B) = some o) : (P ∧ A = some o) ∨ (¬ P ∧ B = some o) := by
  by_cases hP : P
  · rw [if_pos hP] at h; exact Or.inl ⟨hP, h⟩
  · rw [if_neg hP] at h; exact Or.inr ⟨hP, h⟩
theorem am_ifn {α : Type} {P : Prop} [Decidable P] {A : Option α} {o : α} (h : (if P then A else none) = some o) : P ∧ A = some o := by
  rcases am_if h with q | ⟨_, q⟩
  · exact q
  · cases q
theorem am_bind {α β : Type} {x : Option α} {f : α → Option β} {o : β} (h : x.bind f = some o) : ∃ a, x = some a ∧ f a = some o := by
  cases x with
  | none => cases h
  | some a => exact ⟨a, rfl, h⟩
