section
-- ===== PART A: goes FIRST, ahead of the names: the tables' words, and 'selects' of the private methods out of them =====
/-- a private method of a class that the tables say can be made, by its rows of tables_1 -/
def lw_okq (q : MethodName × Nat) : Prop := (q.1.cls ≠ "java/lang/invoke/MethodHandle" ∧ q.1.cls ≠ "java/lang/invoke/VarHandle") ∧ Cond.instantiable q.1.cls q.2 ∈ tables_1 ∧ Cond.privateMethod q.1 ∈ tables_1 ∧ Cond.instanceMethod q.1 ∈ tables_1
theorem lw_p0 : lw_okq (⟨"CoreBook", "opened", "(II)LCoreBook$Holding;"⟩, 13) := ⟨⟨by decide +kernel, by decide +kernel⟩, List.mem_of_getElem? (i := 11) (by decide +kernel), List.mem_of_getElem? (i := 155) (by decide +kernel), List.mem_of_getElem? (i := 156) (by decide +kernel)⟩
theorem lw_p1 : lw_okq (⟨"CoreBook", "newStone", "(II)LCoreBook$Thing;"⟩, 13) := ⟨⟨by decide +kernel, by decide +kernel⟩, List.mem_of_getElem? (i := 11) (by decide +kernel), List.mem_of_getElem? (i := 159) (by decide +kernel), List.mem_of_getElem? (i := 160) (by decide +kernel)⟩
theorem lw_p2 : lw_okq (⟨"CoreBook", "accessToRead", "(III)I"⟩, 13) := ⟨⟨by decide +kernel, by decide +kernel⟩, List.mem_of_getElem? (i := 11) (by decide +kernel), List.mem_of_getElem? (i := 254) (by decide +kernel), List.mem_of_getElem? (i := 255) (by decide +kernel)⟩
theorem lw_p3 : lw_okq (⟨"CoreBook", "accessToWrite", "(IILCoreBook$Thing;)I"⟩, 13) := ⟨⟨by decide +kernel, by decide +kernel⟩, List.mem_of_getElem? (i := 11) (by decide +kernel), List.mem_of_getElem? (i := 299) (by decide +kernel), List.mem_of_getElem? (i := 300) (by decide +kernel)⟩
theorem lw_p4 : lw_okq (⟨"CoreBook", "accessToTake", "(II)I"⟩, 13) := ⟨⟨by decide +kernel, by decide +kernel⟩, List.mem_of_getElem? (i := 11) (by decide +kernel), List.mem_of_getElem? (i := 315) (by decide +kernel), List.mem_of_getElem? (i := 316) (by decide +kernel)⟩
theorem lw_p5 : lw_okq (⟨"CoreBook", "accessToLay", "(II)I"⟩, 13) := ⟨⟨by decide +kernel, by decide +kernel⟩, List.mem_of_getElem? (i := 11) (by decide +kernel), List.mem_of_getElem? (i := 323) (by decide +kernel), List.mem_of_getElem? (i := 324) (by decide +kernel)⟩
theorem lw_p6 : lw_okq (⟨"CoreBook", "weightOf", "(LCoreBook$Thing;)I"⟩, 13) := ⟨⟨by decide +kernel, by decide +kernel⟩, List.mem_of_getElem? (i := 11) (by decide +kernel), List.mem_of_getElem? (i := 336) (by decide +kernel), List.mem_of_getElem? (i := 337) (by decide +kernel)⟩
theorem lw_p7 : lw_okq (⟨"CoreBook", "showIndex", "(I)V"⟩, 13) := ⟨⟨by decide +kernel, by decide +kernel⟩, List.mem_of_getElem? (i := 11) (by decide +kernel), List.mem_of_getElem? (i := 363) (by decide +kernel), List.mem_of_getElem? (i := 364) (by decide +kernel)⟩
theorem lw_p8 : lw_okq (⟨"CoreBook", "readAll", "(IILCoreBook$Readings;)I"⟩, 13) := ⟨⟨by decide +kernel, by decide +kernel⟩, List.mem_of_getElem? (i := 11) (by decide +kernel), List.mem_of_getElem? (i := 388) (by decide +kernel), List.mem_of_getElem? (i := 389) (by decide +kernel)⟩
theorem lw_p9 : lw_okq (⟨"CoreBook", "adoptDraft", "()I"⟩, 13) := ⟨⟨by decide +kernel, by decide +kernel⟩, List.mem_of_getElem? (i := 11) (by decide +kernel), List.mem_of_getElem? (i := 431) (by decide +kernel), List.mem_of_getElem? (i := 432) (by decide +kernel)⟩
theorem lw_p10 : lw_okq (⟨"CoreBook", "draftEqualOnes", "()Z"⟩, 13) := ⟨⟨by decide +kernel, by decide +kernel⟩, List.mem_of_getElem? (i := 11) (by decide +kernel), List.mem_of_getElem? (i := 443) (by decide +kernel), List.mem_of_getElem? (i := 444) (by decide +kernel)⟩
theorem lw_p11 : lw_okq (⟨"CoreBook$Page", "firstWith", "(LCoreBook$Holding;)I"⟩, 1) := ⟨⟨by decide +kernel, by decide +kernel⟩, List.mem_of_getElem? (i := 19) (by decide +kernel), List.mem_of_getElem? (i := 477) (by decide +kernel), List.mem_of_getElem? (i := 478) (by decide +kernel)⟩
theorem lw_p12 : lw_okq (⟨"CoreBookModel", "free", "(I)I"⟩, 34) := ⟨⟨by decide +kernel, by decide +kernel⟩, List.mem_of_getElem? (i := 504) (by decide +kernel), List.mem_of_getElem? (i := 630) (by decide +kernel), List.mem_of_getElem? (i := 631) (by decide +kernel)⟩
theorem lw_p13 : lw_okq (⟨"CoreBookModel", "begin", "(III)V"⟩, 34) := ⟨⟨by decide +kernel, by decide +kernel⟩, List.mem_of_getElem? (i := 504) (by decide +kernel), List.mem_of_getElem? (i := 634) (by decide +kernel), List.mem_of_getElem? (i := 635) (by decide +kernel)⟩
theorem lw_p14 : lw_okq (⟨"CoreBookModel", "put", "(IIJD)V"⟩, 34) := ⟨⟨by decide +kernel, by decide +kernel⟩, List.mem_of_getElem? (i := 504) (by decide +kernel), List.mem_of_getElem? (i := 638) (by decide +kernel), List.mem_of_getElem? (i := 639) (by decide +kernel)⟩
theorem lw_p15 : lw_okq (⟨"CoreBookModel", "newStone", "(IZ)I"⟩, 34) := ⟨⟨by decide +kernel, by decide +kernel⟩, List.mem_of_getElem? (i := 504) (by decide +kernel), List.mem_of_getElem? (i := 642) (by decide +kernel), List.mem_of_getElem? (i := 643) (by decide +kernel)⟩
def lw_privs_1 : List (MethodName × Nat) := [(⟨"CoreBook", "opened", "(II)LCoreBook$Holding;"⟩, 13), (⟨"CoreBook", "newStone", "(II)LCoreBook$Thing;"⟩, 13), (⟨"CoreBook", "accessToRead", "(III)I"⟩, 13), (⟨"CoreBook", "accessToWrite", "(IILCoreBook$Thing;)I"⟩, 13), (⟨"CoreBook", "accessToTake", "(II)I"⟩, 13), (⟨"CoreBook", "accessToLay", "(II)I"⟩, 13), (⟨"CoreBook", "weightOf", "(LCoreBook$Thing;)I"⟩, 13), (⟨"CoreBook", "showIndex", "(I)V"⟩, 13), (⟨"CoreBook", "readAll", "(IILCoreBook$Readings;)I"⟩, 13), (⟨"CoreBook", "adoptDraft", "()I"⟩, 13), (⟨"CoreBook", "draftEqualOnes", "()Z"⟩, 13), (⟨"CoreBook$Page", "firstWith", "(LCoreBook$Holding;)I"⟩, 1), (⟨"CoreBookModel", "free", "(I)I"⟩, 34), (⟨"CoreBookModel", "begin", "(III)V"⟩, 34), (⟨"CoreBookModel", "put", "(IIJD)V"⟩, 34), (⟨"CoreBookModel", "newStone", "(IZ)I"⟩, 34)]
theorem lw_r1 : ∀ q ∈ lw_privs_1, lw_okq q := List.forall_mem_cons.mpr ⟨lw_p0, List.forall_mem_cons.mpr ⟨lw_p1, List.forall_mem_cons.mpr ⟨lw_p2, List.forall_mem_cons.mpr ⟨lw_p3, List.forall_mem_cons.mpr ⟨lw_p4, List.forall_mem_cons.mpr ⟨lw_p5, List.forall_mem_cons.mpr ⟨lw_p6, List.forall_mem_cons.mpr ⟨lw_p7, List.forall_mem_cons.mpr ⟨lw_p8, List.forall_mem_cons.mpr ⟨lw_p9, List.forall_mem_cons.mpr ⟨lw_p10, List.forall_mem_cons.mpr ⟨lw_p11, List.forall_mem_cons.mpr ⟨lw_p12, List.forall_mem_cons.mpr ⟨lw_p13, List.forall_mem_cons.mpr ⟨lw_p14, List.forall_mem_cons.mpr ⟨lw_p15, fun _ h => absurd h List.not_mem_nil⟩⟩⟩⟩⟩⟩⟩⟩⟩⟩⟩⟩⟩⟩⟩⟩
theorem lw_p16 : lw_okq (⟨"CoreBookModel", "first", "(I)I"⟩, 34) := ⟨⟨by decide +kernel, by decide +kernel⟩, List.mem_of_getElem? (i := 504) (by decide +kernel), List.mem_of_getElem? (i := 650) (by decide +kernel), List.mem_of_getElem? (i := 651) (by decide +kernel)⟩
theorem lw_p17 : lw_okq (⟨"CoreBookModel", "isRow", "(I)Z"⟩, 34) := ⟨⟨by decide +kernel, by decide +kernel⟩, List.mem_of_getElem? (i := 504) (by decide +kernel), List.mem_of_getElem? (i := 654) (by decide +kernel), List.mem_of_getElem? (i := 655) (by decide +kernel)⟩
theorem lw_p18 : lw_okq (⟨"CoreBookModel", "copy", "(II)V"⟩, 34) := ⟨⟨by decide +kernel, by decide +kernel⟩, List.mem_of_getElem? (i := 504) (by decide +kernel), List.mem_of_getElem? (i := 658) (by decide +kernel), List.mem_of_getElem? (i := 659) (by decide +kernel)⟩
theorem lw_p19 : lw_okq (⟨"CoreBookModel", "counted", "(II)I"⟩, 34) := ⟨⟨by decide +kernel, by decide +kernel⟩, List.mem_of_getElem? (i := 504) (by decide +kernel), List.mem_of_getElem? (i := 670) (by decide +kernel), List.mem_of_getElem? (i := 671) (by decide +kernel)⟩
theorem lw_p20 : lw_okq (⟨"CoreBookModel", "read0", "(III)I"⟩, 34) := ⟨⟨by decide +kernel, by decide +kernel⟩, List.mem_of_getElem? (i := 504) (by decide +kernel), List.mem_of_getElem? (i := 679) (by decide +kernel), List.mem_of_getElem? (i := 680) (by decide +kernel)⟩
theorem lw_p21 : lw_okq (⟨"CoreBookModel", "make", "(IJ)V"⟩, 34) := ⟨⟨by decide +kernel, by decide +kernel⟩, List.mem_of_getElem? (i := 504) (by decide +kernel), List.mem_of_getElem? (i := 716) (by decide +kernel), List.mem_of_getElem? (i := 717) (by decide +kernel)⟩
theorem lw_p22 : lw_okq (⟨"CoreBookModel", "write0", "(IIIJD)I"⟩, 34) := ⟨⟨by decide +kernel, by decide +kernel⟩, List.mem_of_getElem? (i := 504) (by decide +kernel), List.mem_of_getElem? (i := 721) (by decide +kernel), List.mem_of_getElem? (i := 722) (by decide +kernel)⟩
theorem lw_p23 : lw_okq (⟨"CoreBookModel", "lay0", "(IIIJD)V"⟩, 34) := ⟨⟨by decide +kernel, by decide +kernel⟩, List.mem_of_getElem? (i := 504) (by decide +kernel), List.mem_of_getElem? (i := 725) (by decide +kernel), List.mem_of_getElem? (i := 726) (by decide +kernel)⟩
theorem lw_p24 : lw_okq (⟨"CoreBookModel", "take0", "(II)I"⟩, 34) := ⟨⟨by decide +kernel, by decide +kernel⟩, List.mem_of_getElem? (i := 504) (by decide +kernel), List.mem_of_getElem? (i := 733) (by decide +kernel), List.mem_of_getElem? (i := 734) (by decide +kernel)⟩
theorem lw_p25 : lw_okq (⟨"CoreBookModel", "cellOf", "(II)I"⟩, 34) := ⟨⟨by decide +kernel, by decide +kernel⟩, List.mem_of_getElem? (i := 504) (by decide +kernel), List.mem_of_getElem? (i := 737) (by decide +kernel), List.mem_of_getElem? (i := 738) (by decide +kernel)⟩
theorem lw_p26 : lw_okq (⟨"CoreBookModel", "putDown", "(II)I"⟩, 34) := ⟨⟨by decide +kernel, by decide +kernel⟩, List.mem_of_getElem? (i := 504) (by decide +kernel), List.mem_of_getElem? (i := 745) (by decide +kernel), List.mem_of_getElem? (i := 746) (by decide +kernel)⟩
theorem lw_p27 : lw_okq (⟨"CoreBookModel", "hasStone", "()Z"⟩, 34) := ⟨⟨by decide +kernel, by decide +kernel⟩, List.mem_of_getElem? (i := 504) (by decide +kernel), List.mem_of_getElem? (i := 761) (by decide +kernel), List.mem_of_getElem? (i := 762) (by decide +kernel)⟩
theorem lw_p28 : lw_okq (⟨"CoreBookModel", "unfit", "(II)I"⟩, 34) := ⟨⟨by decide +kernel, by decide +kernel⟩, List.mem_of_getElem? (i := 504) (by decide +kernel), List.mem_of_getElem? (i := 778) (by decide +kernel), List.mem_of_getElem? (i := 779) (by decide +kernel)⟩
theorem lw_p29 : lw_okq (⟨"CoreBookModel", "layCell", "(IIII)V"⟩, 34) := ⟨⟨by decide +kernel, by decide +kernel⟩, List.mem_of_getElem? (i := 504) (by decide +kernel), List.mem_of_getElem? (i := 782) (by decide +kernel), List.mem_of_getElem? (i := 783) (by decide +kernel)⟩
theorem lw_p30 : lw_okq (⟨"CoreBookModel", "pourOne", "(IIIII)I"⟩, 34) := ⟨⟨by decide +kernel, by decide +kernel⟩, List.mem_of_getElem? (i := 504) (by decide +kernel), List.mem_of_getElem? (i := 800) (by decide +kernel), List.mem_of_getElem? (i := 801) (by decide +kernel)⟩
theorem lw_p31 : lw_okq (⟨"CoreBookModel", "readAll", "(III)I"⟩, 34) := ⟨⟨by decide +kernel, by decide +kernel⟩, List.mem_of_getElem? (i := 504) (by decide +kernel), List.mem_of_getElem? (i := 808) (by decide +kernel), List.mem_of_getElem? (i := 809) (by decide +kernel)⟩
def lw_privs_2 : List (MethodName × Nat) := [(⟨"CoreBookModel", "first", "(I)I"⟩, 34), (⟨"CoreBookModel", "isRow", "(I)Z"⟩, 34), (⟨"CoreBookModel", "copy", "(II)V"⟩, 34), (⟨"CoreBookModel", "counted", "(II)I"⟩, 34), (⟨"CoreBookModel", "read0", "(III)I"⟩, 34), (⟨"CoreBookModel", "make", "(IJ)V"⟩, 34), (⟨"CoreBookModel", "write0", "(IIIJD)I"⟩, 34), (⟨"CoreBookModel", "lay0", "(IIIJD)V"⟩, 34), (⟨"CoreBookModel", "take0", "(II)I"⟩, 34), (⟨"CoreBookModel", "cellOf", "(II)I"⟩, 34), (⟨"CoreBookModel", "putDown", "(II)I"⟩, 34), (⟨"CoreBookModel", "hasStone", "()Z"⟩, 34), (⟨"CoreBookModel", "unfit", "(II)I"⟩, 34), (⟨"CoreBookModel", "layCell", "(IIII)V"⟩, 34), (⟨"CoreBookModel", "pourOne", "(IIIII)I"⟩, 34), (⟨"CoreBookModel", "readAll", "(III)I"⟩, 34)]
theorem lw_r2 : ∀ q ∈ lw_privs_2, lw_okq q := List.forall_mem_cons.mpr ⟨lw_p16, List.forall_mem_cons.mpr ⟨lw_p17, List.forall_mem_cons.mpr ⟨lw_p18, List.forall_mem_cons.mpr ⟨lw_p19, List.forall_mem_cons.mpr ⟨lw_p20, List.forall_mem_cons.mpr ⟨lw_p21, List.forall_mem_cons.mpr ⟨lw_p22, List.forall_mem_cons.mpr ⟨lw_p23, List.forall_mem_cons.mpr ⟨lw_p24, List.forall_mem_cons.mpr ⟨lw_p25, List.forall_mem_cons.mpr ⟨lw_p26, List.forall_mem_cons.mpr ⟨lw_p27, List.forall_mem_cons.mpr ⟨lw_p28, List.forall_mem_cons.mpr ⟨lw_p29, List.forall_mem_cons.mpr ⟨lw_p30, List.forall_mem_cons.mpr ⟨lw_p31, fun _ h => absurd h List.not_mem_nil⟩⟩⟩⟩⟩⟩⟩⟩⟩⟩⟩⟩⟩⟩⟩⟩
theorem lw_p32 : lw_okq (⟨"CoreBookModel", "areEqual", "(III)Z"⟩, 34) := ⟨⟨by decide +kernel, by decide +kernel⟩, List.mem_of_getElem? (i := 504) (by decide +kernel), List.mem_of_getElem? (i := 824) (by decide +kernel), List.mem_of_getElem? (i := 825) (by decide +kernel)⟩
theorem lw_p33 : lw_okq (⟨"CoreBookModel", "firstWith", "(I)I"⟩, 34) := ⟨⟨by decide +kernel, by decide +kernel⟩, List.mem_of_getElem? (i := 504) (by decide +kernel), List.mem_of_getElem? (i := 840) (by decide +kernel), List.mem_of_getElem? (i := 841) (by decide +kernel)⟩
theorem lw_p34 : lw_okq (⟨"CoreBookModel", "unlike", "()I"⟩, 34) := ⟨⟨by decide +kernel, by decide +kernel⟩, List.mem_of_getElem? (i := 504) (by decide +kernel), List.mem_of_getElem? (i := 858) (by decide +kernel), List.mem_of_getElem? (i := 859) (by decide +kernel)⟩
theorem lw_p35 : lw_okq (⟨"CoreBookModel", "hung", "(I)I"⟩, 34) := ⟨⟨by decide +kernel, by decide +kernel⟩, List.mem_of_getElem? (i := 504) (by decide +kernel), List.mem_of_getElem? (i := 864) (by decide +kernel), List.mem_of_getElem? (i := 865) (by decide +kernel)⟩
def lw_privs_3 : List (MethodName × Nat) := [(⟨"CoreBookModel", "areEqual", "(III)Z"⟩, 34), (⟨"CoreBookModel", "firstWith", "(I)I"⟩, 34), (⟨"CoreBookModel", "unlike", "()I"⟩, 34), (⟨"CoreBookModel", "hung", "(I)I"⟩, 34)]
theorem lw_r3 : ∀ q ∈ lw_privs_3, lw_okq q := List.forall_mem_cons.mpr ⟨lw_p32, List.forall_mem_cons.mpr ⟨lw_p33, List.forall_mem_cons.mpr ⟨lw_p34, List.forall_mem_cons.mpr ⟨lw_p35, fun _ h => absurd h List.not_mem_nil⟩⟩⟩⟩
def lw_privs : List (MethodName × Nat) := lw_privs_1 ++ (lw_privs_2 ++ (lw_privs_3))
def lw_tbl : List Cond := k2_sels lw_privs ++ tables_1
theorem lw_privs_ok : ∀ q ∈ lw_privs, lw_okq q := by
  show ∀ q ∈ lw_privs_1 ++ (lw_privs_2 ++ (lw_privs_3)), lw_okq q
  exact List.forall_mem_append.mpr ⟨lw_r1, List.forall_mem_append.mpr ⟨lw_r2, lw_r3⟩⟩
/-- the streams that the claim lets the run draw from -/
abbrev lw_cs : List Choice := [Jvm.Choice.named "NaN.bits"]
theorem lw_bits : nanBits ∈ lw_cs := by first | decide | exact List.mem_cons_self | simp [lw_cs, nanBits]
end
section
/-! values, worlds, and what an instruction does to them: a pure machine -/
abbrev xV : Type := Int32 ⊕ Int64 ⊕ UInt32 ⊕ UInt64 ⊕ Option Nat
abbrev xI (x : Int32) : xV := .inl x
abbrev xJ (x : Int64) : xV := .inr (.inl x)
abbrev xF (x : UInt32) : xV := .inr (.inr (.inl x))
abbrev xD (x : UInt64) : xV := .inr (.inr (.inr (.inl x)))
abbrev xA (x : Option Nat) : xV := .inr (.inr (.inr (.inr x)))
def xv : xV → Value
  | .inl x => .int x
  | .inr (.inl x) => .long x
  | .inr (.inr (.inl x)) => .float x
  | .inr (.inr (.inr (.inl x))) => .double x
  | .inr (.inr (.inr (.inr x))) => va_rf x
def xct : xV → Nat
  | .inl _ => 1
  | .inr (.inl _) => 2
  | .inr (.inr (.inl _)) => 1
  | .inr (.inr (.inr (.inl _))) => 2
  | .inr (.inr (.inr (.inr _))) => 1
abbrev xL : Type := List (Option xV)
/-- a cell: an array (its kind, length, contents), or an object (the number of its class, its fields) -/
abbrev xE : Type := (Nat × vp_A) ⊕ (Nat × List xV)
/-- a world: how many cells there are, how many slots were made, where the table lies, the cells -/
abbrev xW : Type := Nat × Nat × Nat × (Nat → Option xE)
def xup (m : Nat → Option xE) (a : Nat) (e : xE) : Nat → Option xE := fun b => if b = a then some e else m b
def xset (w : xW) (a : Nat) (e : xE) : xW := (w.1, w.2.1, w.2.2.1, xup w.2.2.2 a e)
def xpush (w : xW) (n : Nat) (e : xE) : xW := (w.1 + 1, w.2.1 + n, w.2.2.1, xup w.2.2.2 w.1 e)
section XH
variable {α : Type}
def xcv (c : Option xV) (f : xV → Option α) : Option α := match c with
  | some v => f v
  | none => none
def xpI (st : List xV) (f : Int32 → List xV → Option α) : Option α := match st with
  | .inl x :: r => f x r
  | _ => none
def xpJ (st : List xV) (f : Int64 → List xV → Option α) : Option α := match st with
  | .inr (.inl x) :: r => f x r
  | _ => none
def xpF (st : List xV) (f : UInt32 → List xV → Option α) : Option α := match st with
  | .inr (.inr (.inl x)) :: r => f x r
  | _ => none
def xpD (st : List xV) (f : UInt64 → List xV → Option α) : Option α := match st with
  | .inr (.inr (.inr (.inl x))) :: r => f x r
  | _ => none
def xpA (st : List xV) (f : Option Nat → List xV → Option α) : Option α := match st with
  | .inr (.inr (.inr (.inr x))) :: r => f x r
  | _ => none
def xnl (st : List xV) (f : Option α) : Option α := match st with
  | [] => f
  | _ => none
def xlI (l : xL) (i : Nat) (f : Int32 → Option α) : Option α := match l[i]? with
  | some (some (.inl x)) => f x
  | _ => none
def xlJ (l : xL) (i : Nat) (f : Int64 → Option α) : Option α := match l[i]? with
  | some (some (.inr (.inl x))) => f x
  | _ => none
def xlF (l : xL) (i : Nat) (f : UInt32 → Option α) : Option α := match l[i]? with
  | some (some (.inr (.inr (.inl x)))) => f x
  | _ => none
def xlD (l : xL) (i : Nat) (f : UInt64 → Option α) : Option α := match l[i]? with
  | some (some (.inr (.inr (.inr (.inl x))))) => f x
  | _ => none
def xlA (l : xL) (i : Nat) (f : Option Nat → Option α) : Option α := match l[i]? with
  | some (some (.inr (.inr (.inr (.inr x))))) => f x
  | _ => none
/-- what a call answers -/
def xrV (r : Option xV) (f : Option α) : Option α := match r with
  | none => f
  | some _ => none
def xrI (r : Option xV) (f : Int32 → Option α) : Option α := match r with
  | some (.inl x) => f x
  | _ => none
def xrJ (r : Option xV) (f : Int64 → Option α) : Option α := match r with
  | some (.inr (.inl x)) => f x
  | _ => none
def xrD (r : Option xV) (f : UInt64 → Option α) : Option α := match r with
  | some (.inr (.inr (.inr (.inl x)))) => f x
  | _ => none
def xrA (r : Option xV) (f : Option Nat → Option α) : Option α := match r with
  | some (.inr (.inr (.inr (.inr x)))) => f x
  | _ => none
def xrc (as : List xV) (f : Option Nat → Option α) : Option α := match as with
  | .inr (.inr (.inr (.inr x))) :: _ => f x
  | _ => none
/-- no NaN -/
def xnF (x : UInt32) (f : UInt32 → Option α) : Option α := if x &&& 0x7fffffff ≤ 0x7f800000 then f x else none
def xnD (x : UInt64) (f : UInt64 → Option α) : Option α := if x &&& 0x7fffffffffffffff ≤ 0x7ff0000000000000 then f x else none
end XH
/-- a store into a local variable spoils a long that begins just before it -/
def xclr (l : xL) (i : Nat) : xL := match i with
  | 0 => l
  | j + 1 => match l[j]? with
    | some (some (.inr (.inl _))) => l.set j none
    | some (some (.inr (.inr (.inr (.inl _))))) => l.set j none
    | _ => l
def xs1 (l : xL) (i : Nat) (v : xV) : xL := (xclr l i).set i (some v)
def xs2 (l : xL) (i : Nat) (v : xV) : xL := ((xclr l i).set i (some v)).set (i + 1) none
def xmk (ms : List Bool) (l : xL) : xL := match ms with
  | [] => l
  | _ => List.zipWith (fun b x => bif b then x else none) ms l
def xent1 : List xV → xL
  | [] => []
  | .inl x :: r => some (.inl x) :: xent1 r
  | .inr (.inl x) :: r => some (.inr (.inl x)) :: none :: xent1 r
  | .inr (.inr (.inl x)) :: r => some (.inr (.inr (.inl x))) :: xent1 r
  | .inr (.inr (.inr (.inl x))) :: r => some (.inr (.inr (.inr (.inl x)))) :: none :: xent1 r
  | .inr (.inr (.inr (.inr x))) :: r => some (.inr (.inr (.inr (.inr x)))) :: xent1 r
def xent2 : Nat → xL → xL
  | 0, _ => []
  | n + 1, [] => none :: xent2 n []
  | n + 1, x :: r => x :: xent2 n r
def xwt : List xV → Nat
  | [] => 0
  | v :: r => xct v + xwt r
/-! cells -/
def xobj (w : xW) (a ci : Nat) : Option (List xV) := match w.2.2.2 a with
  | some (.inr (c, fs)) => if c = ci then some fs else none
  | _ => none
def xcno (w : xW) (a : Nat) : Option Nat := match w.2.2.2 a with
  | some (.inr (c, _)) => some c
  | _ => none
def xgI (w : xW) (a ci k : Nat) : Option Int32 := (xobj w a ci).bind fun fs => match fs[k]? with
  | some (.inl x) => some x
  | _ => none
def xgJ (w : xW) (a ci k : Nat) : Option Int64 := (xobj w a ci).bind fun fs => match fs[k]? with
  | some (.inr (.inl x)) => some x
  | _ => none
def xgD (w : xW) (a ci k : Nat) : Option UInt64 := (xobj w a ci).bind fun fs => match fs[k]? with
  | some (.inr (.inr (.inr (.inl x)))) => some x
  | _ => none
def xgA (w : xW) (a ci k : Nat) : Option (Option Nat) := (xobj w a ci).bind fun fs => match fs[k]? with
  | some (.inr (.inr (.inr (.inr x)))) => some x
  | _ => none
def xput (w : xW) (a ci k : Nat) (v : xV) : Option xW := (xobj w a ci).bind fun fs => if k < fs.length then some (xset w a (.inr (ci, fs.set k v))) else none
def xlen (w : xW) (a : Nat) : Option Int32 := match w.2.2.2 a with
  | some (.inl e) => some (nI e.2.1)
  | _ => none
def xaI (w : xW) (a : Nat) (i : Int32) : Option Int32 := match w.2.2.2 a with
  | some (.inl (k, n, .inl f)) => if (k = 0 ∨ k = 7) ∧ ¬ i < 0 ∧ i.toNatClampNeg < n then some (f i.toNatClampNeg) else none
  | _ => none
def xaZ (w : xW) (a : Nat) (i : Int32) : Option Int32 := match w.2.2.2 a with
  | some (.inl (k, n, .inl f)) => if k = 3 ∧ ¬ i < 0 ∧ i.toNatClampNeg < n then some (f i.toNatClampNeg) else none
  | _ => none
def xaJ (w : xW) (a : Nat) (i : Int32) : Option Int64 := match w.2.2.2 a with
  | some (.inl (k, n, .inr (.inl f))) => if k = 1 ∧ ¬ i < 0 ∧ i.toNatClampNeg < n then some (f i.toNatClampNeg) else none
  | _ => none
def xaD (w : xW) (a : Nat) (i : Int32) : Option UInt64 := match w.2.2.2 a with
  | some (.inl (k, n, .inr (.inr (.inr (.inl f))))) => if k = 2 ∧ ¬ i < 0 ∧ i.toNatClampNeg < n then some (f i.toNatClampNeg) else none
  | _ => none
def xaA (w : xW) (a : Nat) (i : Int32) : Option (Option Nat) := match w.2.2.2 a with
  | some (.inl (k, n, .inr (.inr (.inr (.inr f))))) => if (k = 4 ∨ k = 5 ∨ k = 6) ∧ ¬ i < 0 ∧ i.toNatClampNeg < n then some (f i.toNatClampNeg) else none
  | _ => none
def xsI (w : xW) (a : Nat) (i x : Int32) : Option xW := match w.2.2.2 a with
  | some (.inl (k, n, .inl f)) => if k = 0 ∧ ¬ i < 0 ∧ i.toNatClampNeg < n then some (xset w a (.inl (0, n, .inl (va_up f i.toNatClampNeg x)))) else none
  | _ => none
def xsZ (w : xW) (a : Nat) (i x : Int32) : Option xW := match w.2.2.2 a with
  | some (.inl (k, n, .inl f)) => if k = 3 ∧ ¬ i < 0 ∧ i.toNatClampNeg < n then some (xset w a (.inl (3, n, .inl (va_up f i.toNatClampNeg (vp_nar .boolean x))))) else none
  | _ => none
def xsJ (w : xW) (a : Nat) (i : Int32) (x : Int64) : Option xW := match w.2.2.2 a with
  | some (.inl (k, n, .inr (.inl f))) => if k = 1 ∧ ¬ i < 0 ∧ i.toNatClampNeg < n then some (xset w a (.inl (1, n, .inr (.inl (va_up f i.toNatClampNeg x))))) else none
  | _ => none
def xsD (w : xW) (a : Nat) (i : Int32) (x : UInt64) : Option xW := match w.2.2.2 a with
  | some (.inl (k, n, .inr (.inr (.inr (.inl f))))) => if k = 2 ∧ ¬ i < 0 ∧ i.toNatClampNeg < n then some (xset w a (.inl (2, n, .inr (.inr (.inr (.inl (va_up f i.toNatClampNeg x))))))) else none
  | _ => none
/-- which objects an array of references may hold: Page 0, Row 3, Thing 5 -/
def xfit (k c : Nat) : Bool := (k == 4 && (c == 3 || c == 5)) || (k == 5 && c == 5) || (k == 6 && c == 0)
def xsA (w : xW) (a : Nat) (i : Int32) (x : Nat) : Option xW := match w.2.2.2 a with
  | some (.inl (k, n, .inr (.inr (.inr (.inr f))))) => (xcno w x).bind fun c => if xfit k c = true ∧ ¬ i < 0 ∧ i.toNatClampNeg < n then some (xset w a (.inl (k, n, .inr (.inr (.inr (.inr (va_up f i.toNatClampNeg (some x)))))))) else none
  | _ => none
/-- a new array: its contents at first -/
def xzero (k : Nat) : (Nat → Int32) ⊕ (Nat → Int64) ⊕ (Nat → UInt32) ⊕ (Nat → UInt64) ⊕ (Nat → Option Nat) := match k with
  | 0 => .inl fun _ => 0
  | 1 => .inr (.inl fun _ => 0)
  | 2 => .inr (.inr (.inr (.inl fun _ => 0)))
  | 3 => .inl fun _ => 0
  | _ => .inr (.inr (.inr (.inr fun _ => none)))
def xnew (w : xW) (k : Nat) (n : Int32) : Option xW := if ¬ n < 0 ∧ n ≤ 65536 then some (xpush w n.toNatClampNeg (.inl (k, n.toNatClampNeg, xzero k))) else none
/-- a switch over neighbouring numbers -/
def xsw {α : Type} (x : Int32) (pc : Nat) (f : Nat → Option α) : Int → List Int → Nat → Option α
  | _, [], d => f d
  | j, o :: r, d => if x = Int32.ofInt j then f ((pc : Int) + o).toNat else xsw x pc f (j + 1) r d
/-- the fields of a new object -/
def xdf (c : Nat) : List xV := match c with
  | 0 => [xA none]
  | 1 => [xA none, xA none, xI 0]
  | 2 => [xA none, xA none, xI 0]
  | 3 => [xI 0, xA none, xA none]
  | 4 => [xA none]
  | 5 => [xI 0, xJ 0, xD 0]
  | 6 => [xA none, xA none, xA none, xA none, xA none, xA none, xA none, xA none, xA none, xA none, xI 0, xA none, xI 0]
  | _ => [xA none, xA none, xA none, xA none, xA none, xA none, xI 0, xI 0, xJ 0, xD 0, xJ 0, xA none, xA none, xI 0, xA none, xI 0, xA none, xA none, xI 0, xJ 0, xD 0, xJ 0, xD 0, xA none, xA none, xI 0, xA none, xA none, xA none, xA none, xA none, xA none, xA none, xA none]
/-- what a call leaves on the stack -/
def xans {α : Type} (cv : Option xV) (r : Option xV) (st : List xV) (f : List xV → Option α) : Option α := match cv with
  | none => xrV r (f st)
  | some (.inl _) => xrI r fun x => f (xI x :: st)
  | some (.inr (.inl _)) => xrJ r fun x => f (xJ x :: st)
  | some (.inr (.inr (.inr (.inl _)))) => xrD r fun x => f (xD x :: st)
  | some (.inr (.inr (.inr (.inr _)))) => xrA r fun x => f (xA x :: st)
  | _ => none
def xexec {α : Type} (cal : Nat → List xV → xW → Option (Option xV × xW)) (i : Instr) (pc len a b : Nat) (cv : Option xV) (l : xL) (st : List xV) (w : xW) (k : Nat → xL → List xV → xW → Option α) (ret : Option xV → xW → Option α) : Option α :=
  match i with
  | .iconst _ => xcv cv fun v => k (pc + len) l (v :: st) w
  | .bipush _ => xcv cv fun v => k (pc + len) l (v :: st) w
  | .sipush _ => xcv cv fun v => k (pc + len) l (v :: st) w
  | .lconst _ => xcv cv fun v => k (pc + len) l (v :: st) w
  | .fconst _ => xcv cv fun v => k (pc + len) l (v :: st) w
  | .dconst _ => xcv cv fun v => k (pc + len) l (v :: st) w
  | .ldc _ => xcv cv fun v => k (pc + len) l (v :: st) w
  | .ldc2_w _ => xcv cv fun v => k (pc + len) l (v :: st) w
  | .aconst_null => k (pc + len) l (xA none :: st) w
  | .iload _ => xlI l a fun x => k (pc + len) l (xI x :: st) w
  | .iload_n _ => xlI l a fun x => k (pc + len) l (xI x :: st) w
  | .lload _ => xlJ l a fun x => k (pc + len) l (xJ x :: st) w
  | .lload_n _ => xlJ l a fun x => k (pc + len) l (xJ x :: st) w
  | .fload _ => xlF l a fun x => k (pc + len) l (xF x :: st) w
  | .dload _ => xlD l a fun x => k (pc + len) l (xD x :: st) w
  | .dload_n _ => xlD l a fun x => k (pc + len) l (xD x :: st) w
  | .aload _ => xlA l a fun x => k (pc + len) l (xA x :: st) w
  | .aload_n _ => xlA l a fun x => k (pc + len) l (xA x :: st) w
  | .istore _ => xpI st fun x st => k (pc + len) (xs1 l a (xI x)) st w
  | .istore_n _ => xpI st fun x st => k (pc + len) (xs1 l a (xI x)) st w
  | .lstore _ => xpJ st fun x st => k (pc + len) (xs2 l a (xJ x)) st w
  | .lstore_n _ => xpJ st fun x st => k (pc + len) (xs2 l a (xJ x)) st w
  | .fstore _ => xpF st fun x st => k (pc + len) (xs1 l a (xF x)) st w
  | .dstore _ => xpD st fun x st => k (pc + len) (xs2 l a (xD x)) st w
  | .dstore_n _ => xpD st fun x st => k (pc + len) (xs2 l a (xD x)) st w
  | .astore _ => xpA st fun x st => k (pc + len) (xs1 l a (xA x)) st w
  | .astore_n _ => xpA st fun x st => k (pc + len) (xs1 l a (xA x)) st w
  | .iinc _ _ => xlI l a fun x => xcv cv fun v => xrI (some v) fun d => k (pc + len) (xs1 l a (xI (x + d))) st w
  | .iadd => xpI st fun y st => xpI st fun x st => k (pc + len) l (xI (x + y) :: st) w
  | .isub => xpI st fun y st => xpI st fun x st => k (pc + len) l (xI (x - y) :: st) w
  | .imul => xpI st fun y st => xpI st fun x st => k (pc + len) l (xI (x * y) :: st) w
  | .idiv => xpI st fun y st => xpI st fun x st => if y = 0 then none else k (pc + len) l (xI (x / y) :: st) w
  | .irem => xpI st fun y st => xpI st fun x st => if y = 0 then none else k (pc + len) l (xI (x - x / y * y) :: st) w
  | .iand => xpI st fun y st => xpI st fun x st => k (pc + len) l (xI (x &&& y) :: st) w
  | .ior => xpI st fun y st => xpI st fun x st => k (pc + len) l (xI (x ||| y) :: st) w
  | .ishl => xpI st fun y st => xpI st fun x st => k (pc + len) l (xI (x <<< (y &&& 31)) :: st) w
  | .ishr => xpI st fun y st => xpI st fun x st => k (pc + len) l (xI (x >>> (y &&& 31)) :: st) w
  | .ladd => xpJ st fun y st => xpJ st fun x st => k (pc + len) l (xJ (x + y) :: st) w
  | .lsub => xpJ st fun y st => xpJ st fun x st => k (pc + len) l (xJ (x - y) :: st) w
  | .land => xpJ st fun y st => xpJ st fun x st => k (pc + len) l (xJ (x &&& y) :: st) w
  | .lor => xpJ st fun y st => xpJ st fun x st => k (pc + len) l (xJ (x ||| y) :: st) w
  | .lshl => xpI st fun y st => xpJ st fun x st => k (pc + len) l (xJ (x <<< (y.toInt64 &&& 63)) :: st) w
  | .lcmp => xpJ st fun y st => xpJ st fun x st => k (pc + len) l (xI (lg_cmp x y) :: st) w
  | .fadd => xpF st fun y st => xpF st fun x st => xnF (FP.fadd x y) fun z => k (pc + len) l (xF z :: st) w
  | .fdiv => xpF st fun y st => xpF st fun x st => xnF (FP.fdiv x y) fun z => k (pc + len) l (xF z :: st) w
  | .dadd => xpD st fun y st => xpD st fun x st => xnD (FP.dadd x y) fun z => k (pc + len) l (xD z :: st) w
  | .dsub => xpD st fun y st => xpD st fun x st => xnD (FP.dsub x y) fun z => k (pc + len) l (xD z :: st) w
  | .dmul => xpD st fun y st => xpD st fun x st => xnD (FP.dmul x y) fun z => k (pc + len) l (xD z :: st) w
  | .ddiv => xpD st fun y st => xpD st fun x st => xnD (FP.ddiv x y) fun z => k (pc + len) l (xD z :: st) w
  | .dneg => xpD st fun x st => k (pc + len) l (xD (FP.dneg x) :: st) w
  | .dcmp op => xpD st fun y st => xpD st fun x st => k (pc + len) l (xI (Op.cmpValue (FP.dcmp x y) op) :: st) w
  | .i2l => xpI st fun x st => k (pc + len) l (xJ x.toInt64 :: st) w
  | .l2i => xpJ st fun x st => k (pc + len) l (xI x.toInt32 :: st) w
  | .i2b => xpI st fun x st => k (pc + len) l (xI x.toInt8.toInt32 :: st) w
  | .i2s => xpI st fun x st => k (pc + len) l (xI x.toInt16.toInt32 :: st) w
  | .i2c => xpI st fun x st => k (pc + len) l (xI (x.toUInt32 % 65536).toInt32 :: st) w
  | .l2f => xpJ st fun x st => k (pc + len) l (xF (FP.l2f x) :: st) w
  | .l2d => xpJ st fun x st => k (pc + len) l (xD (FP.l2d x) :: st) w
  | .f2d => xpF st fun x st => xnD (FP.f2d x) fun z => k (pc + len) l (xD z :: st) w
  | .d2f => xpD st fun x st => xnF (FP.d2f x) fun z => k (pc + len) l (xF z :: st) w
  | .d2i => xpD st fun x st => k (pc + len) l (xI (FP.d2i x) :: st) w
  | .d2l => xpD st fun x st => k (pc + len) l (xJ (FP.d2l x) :: st) w
  | .ifCond .eq _ => xpI st fun x st => if x = 0 then k a l st w else k (pc + len) l st w
  | .ifCond .ne _ => xpI st fun x st => if x = 0 then k (pc + len) l st w else k a l st w
  | .ifCond .lt _ => xpI st fun x st => if x < 0 then k a l st w else k (pc + len) l st w
  | .ifCond .ge _ => xpI st fun x st => if x < 0 then k (pc + len) l st w else k a l st w
  | .ifCond .gt _ => xpI st fun x st => if 0 < x then k a l st w else k (pc + len) l st w
  | .ifCond .le _ => xpI st fun x st => if 0 < x then k (pc + len) l st w else k a l st w
  | .if_icmp .eq _ => xpI st fun y st => xpI st fun x st => if x = y then k a l st w else k (pc + len) l st w
  | .if_icmp .ne _ => xpI st fun y st => xpI st fun x st => if x = y then k (pc + len) l st w else k a l st w
  | .if_icmp .lt _ => xpI st fun y st => xpI st fun x st => if x < y then k a l st w else k (pc + len) l st w
  | .if_icmp .ge _ => xpI st fun y st => xpI st fun x st => if x < y then k (pc + len) l st w else k a l st w
  | .if_icmp .gt _ => xpI st fun y st => xpI st fun x st => if y < x then k a l st w else k (pc + len) l st w
  | .if_icmp .le _ => xpI st fun y st => xpI st fun x st => if y < x then k (pc + len) l st w else k a l st w
  | .if_acmp .ne _ => xpA st fun y st => xpA st fun x st => if x = y then k (pc + len) l st w else k a l st w
  | .ifnonnull _ => xpA st fun x st => if x = none then k (pc + len) l st w else k a l st w
  | .goto _ => k a l st w
  | .tableswitch _ lo _ offs => xpI st fun x st => xsw x pc (fun t => k t l st w) lo offs.toList a
  | .ireturn => xpI st fun x st => xnl st (match b with
    | 0 => ret (some (xI x)) w
    | _ => if x &&& 1 = x then ret (some (xI x)) w else none)
  | .lreturn => xpJ st fun x st => xnl st (ret (some (xJ x)) w)
  | .dreturn => xpD st fun x st => xnl st (ret (some (xD x)) w)
  | .areturn => xpA st fun x st => xnl st (ret (some (xA x)) w)
  | .return_ => xnl st (ret none w)
  | .getfield _ => xpA st fun r st => r.bind fun o => match cv with
    | some (.inl _) => (xgI w o a b).bind fun x => k (pc + len) l (xI x :: st) w
    | some (.inr (.inl _)) => (xgJ w o a b).bind fun x => k (pc + len) l (xJ x :: st) w
    | some (.inr (.inr (.inr (.inl _)))) => (xgD w o a b).bind fun x => k (pc + len) l (xD x :: st) w
    | some (.inr (.inr (.inr (.inr _)))) => (xgA w o a b).bind fun x => k (pc + len) l (xA x :: st) w
    | _ => none
  | .putfield _ => match cv with
    | some (.inl _) => xpI st fun x st => xpA st fun r st => r.bind fun o => (xput w o a b (xI x)).bind fun w => k (pc + len) l st w
    | some (.inr (.inl _)) => xpJ st fun x st => xpA st fun r st => r.bind fun o => (xput w o a b (xJ x)).bind fun w => k (pc + len) l st w
    | some (.inr (.inr (.inr (.inl _)))) => xpD st fun x st => xpA st fun r st => r.bind fun o => (xput w o a b (xD x)).bind fun w => k (pc + len) l st w
    | some (.inr (.inr (.inr (.inr _)))) => xpA st fun x st => xpA st fun r st => r.bind fun o => (xput w o a b (xA x)).bind fun w => k (pc + len) l st w
    | _ => none
  | .getstatic _ => k (pc + len) l (xA (some w.2.2.1) :: st) w
  | .new _ => k (pc + len) l (xA (some w.1) :: st) (xpush w b (.inr (a, xdf a)))
  | .newarray _ => xpI st fun n st => (xnew w a n).bind fun w2 => k (pc + len) l (xA (some w.1) :: st) w2
  | .anewarray _ => xpI st fun n st => (xnew w a n).bind fun w2 => k (pc + len) l (xA (some w.1) :: st) w2
  | .arraylength => xpA st fun r st => r.bind fun o => (xlen w o).bind fun n => k (pc + len) l (xI n :: st) w
  | .iaload => xpI st fun i st => xpA st fun r st => r.bind fun o => (xaI w o i).bind fun x => k (pc + len) l (xI x :: st) w
  | .baload => xpI st fun i st => xpA st fun r st => r.bind fun o => (xaZ w o i).bind fun x => k (pc + len) l (xI x :: st) w
  | .laload => xpI st fun i st => xpA st fun r st => r.bind fun o => (xaJ w o i).bind fun x => k (pc + len) l (xJ x :: st) w
  | .daload => xpI st fun i st => xpA st fun r st => r.bind fun o => (xaD w o i).bind fun x => k (pc + len) l (xD x :: st) w
  | .aaload => xpI st fun i st => xpA st fun r st => r.bind fun o => (xaA w o i).bind fun x => k (pc + len) l (xA x :: st) w
  | .iastore => xpI st fun x st => xpI st fun i st => xpA st fun r st => r.bind fun o => (xsI w o i x).bind fun w => k (pc + len) l st w
  | .bastore => xpI st fun x st => xpI st fun i st => xpA st fun r st => r.bind fun o => (xsZ w o i x).bind fun w => k (pc + len) l st w
  | .lastore => xpJ st fun x st => xpI st fun i st => xpA st fun r st => r.bind fun o => (xsJ w o i x).bind fun w => k (pc + len) l st w
  | .dastore => xpD st fun x st => xpI st fun i st => xpA st fun r st => r.bind fun o => (xsD w o i x).bind fun w => k (pc + len) l st w
  | .aastore => xpA st fun v st => xpI st fun i st => xpA st fun r st => r.bind fun o => v.bind fun x => (xsA w o i x).bind fun w => k (pc + len) l st w
  | .instanceof _ => xpA st fun r st => if r = none then k (pc + len) l (xI 0 :: st) w else r.bind fun o => (xcno w o).bind fun c => if c = a then k (pc + len) l (xI 1 :: st) w else if c = b then k (pc + len) l (xI 0 :: st) w else none
  | .checkcast _ => xpA st fun r st => r.bind fun o => (xobj w o a).bind fun _ => k (pc + len) l (xA r :: st) w
  | .dup => xpA st fun r st => k (pc + len) l (xA r :: xA r :: st) w
  | .dup2 => xpI st fun i st => xpA st fun r st => k (pc + len) l (xI i :: xA r :: xI i :: xA r :: st) w
  | .pop => xpI st fun _ st => k (pc + len) l st w
  | .invokestatic _ => bif Nat.ble b st.length && Nat.ble (xwt (st.drop b)) 8 then (cal a (st.take b).reverse w).bind fun p => xans cv p.1 (st.drop b) fun st => k (pc + len) l st p.2 else none
  | .invokevirtual _ => bif Nat.ble (b % 16) st.length && Nat.ble (xwt (st.drop (b % 16))) 8 then xrc (st.take (b % 16)).reverse fun r => r.bind fun o => (xobj w o (b / 16)).bind fun _ => (cal a (st.take (b % 16)).reverse w).bind fun p => xans cv p.1 (st.drop (b % 16)) fun st => k (pc + len) l st p.2 else none
  | .invokespecial _ => bif Nat.beq a 1000 then xpA st fun r st => bif Nat.ble (xwt st) 8 then r.bind fun _ => k (pc + len) l st w else none
    else bif Nat.ble b st.length && Nat.ble (xwt (st.drop b)) 8 then xrc (st.take b).reverse fun r => r.bind fun _ => (cal a (st.take b).reverse w).bind fun p => xans cv p.1 (st.drop b) fun st => k (pc + len) l st p.2 else none
  | .invokeinterface _ _ => xpA st fun r st => bif Nat.ble (xwt st) 8 then r.bind fun o => (xcno w o).bind fun c => (if c = 3 then cal a [xA r] w else if c = 5 then cal b [xA r] w else none).bind fun p => xans cv p.1 st fun st => k (pc + len) l st p.2 else none
  | _ => none
end
section
/-! the program: classes, fields, methods, instructions, links -/
def xcs (c : Nat) : String := match c with
  | 0 => "CoreBook$Page"
  | 1 => "CoreBook$Pairs"
  | 2 => "CoreBook$Readings"
  | 3 => "CoreBook$Row"
  | 4 => "CoreBook$Tally"
  | 5 => "CoreBook$Thing"
  | 6 => "CoreBook"
  | 7 => "CoreBookModel"
  | 8 => "java/lang/Long"
  | _ => "CoreBookLaw"
def xT_0 : u_T := fun k => match k with
  | _ => ("CoreBook$Page", "columns", "[LCoreBook$Holding;", true)
def xY_0 : Nat → FieldType := fun k => match k with
  | _ => (.array (.object "CoreBook$Holding"))
theorem xn_0 : ∀ a, a < 1 → ∀ b, b < 1 → a ≠ b → (xT_0 a).2.1 ≠ (xT_0 b).2.1 := by decide +kernel
theorem xt_0 : ∀ k, k < 1 → parseFieldDescriptor (xT_0 k).2.2.1 = some (xY_0 k) := by decide +kernel
def xT_1 : u_T := fun k => match k with
  | 0 => ("CoreBook$Pairs", "firsts", "[I", true)
  | 1 => ("CoreBook$Pairs", "seconds", "[I", true)
  | _ => ("CoreBook$Pairs", "size", "I", false)
def xY_1 : Nat → FieldType := fun k => match k with
  | 0 => (.array .int)
  | 1 => (.array .int)
  | _ => .int
theorem xn_1 : ∀ a, a < 3 → ∀ b, b < 3 → a ≠ b → (xT_1 a).2.1 ≠ (xT_1 b).2.1 := by decide +kernel
theorem xt_1 : ∀ k, k < 3 → parseFieldDescriptor (xT_1 k).2.2.1 = some (xY_1 k) := by decide +kernel
def xT_2 : u_T := fun k => match k with
  | 0 => ("CoreBook$Readings", "numbers", "[LCoreBook$Thing;", true)
  | 1 => ("CoreBook$Readings", "blank", "LCoreBook$Thing;", true)
  | _ => ("CoreBook$Readings", "size", "I", false)
def xY_2 : Nat → FieldType := fun k => match k with
  | 0 => (.array (.object "CoreBook$Thing"))
  | 1 => (.object "CoreBook$Thing")
  | _ => .int
theorem xn_2 : ∀ a, a < 3 → ∀ b, b < 3 → a ≠ b → (xT_2 a).2.1 ≠ (xT_2 b).2.1 := by decide +kernel
theorem xt_2 : ∀ k, k < 3 → parseFieldDescriptor (xT_2 k).2.2.1 = some (xY_2 k) := by decide +kernel
def xT_3 : u_T := fun k => match k with
  | 0 => ("CoreBook$Row", "type", "I", true)
  | 1 => ("CoreBook$Row", "cells", "[LCoreBook$Thing;", true)
  | _ => ("CoreBook$Row", "blank", "LCoreBook$Thing;", true)
def xY_3 : Nat → FieldType := fun k => match k with
  | 0 => .int
  | 1 => (.array (.object "CoreBook$Thing"))
  | _ => (.object "CoreBook$Thing")
theorem xn_3 : ∀ a, a < 3 → ∀ b, b < 3 → a ≠ b → (xT_3 a).2.1 ≠ (xT_3 b).2.1 := by decide +kernel
theorem xt_3 : ∀ k, k < 3 → parseFieldDescriptor (xT_3 k).2.2.1 = some (xY_3 k) := by decide +kernel
def xT_4 : u_T := fun k => match k with
  | _ => ("CoreBook$Tally", "times", "[I", true)
def xY_4 : Nat → FieldType := fun k => match k with
  | _ => (.array .int)
theorem xn_4 : ∀ a, a < 1 → ∀ b, b < 1 → a ≠ b → (xT_4 a).2.1 ≠ (xT_4 b).2.1 := by decide +kernel
theorem xt_4 : ∀ k, k < 1 → parseFieldDescriptor (xT_4 k).2.2.1 = some (xY_4 k) := by decide +kernel
def xT_5 : u_T := fun k => match k with
  | 0 => ("CoreBook$Thing", "kind", "I", true)
  | 1 => ("CoreBook$Thing", "whole", "J", true)
  | _ => ("CoreBook$Thing", "real", "D", true)
def xY_5 : Nat → FieldType := fun k => match k with
  | 0 => .int
  | 1 => .long
  | _ => .double
theorem xn_5 : ∀ a, a < 3 → ∀ b, b < 3 → a ≠ b → (xT_5 a).2.1 ≠ (xT_5 b).2.1 := by decide +kernel
theorem xt_5 : ∀ k, k < 3 → parseFieldDescriptor (xT_5 k).2.2.1 = some (xY_5 k) := by decide +kernel
def xT_6 : u_T := fun k => match k with
  | 0 => ("CoreBook", "page", "LCoreBook$Page;", false)
  | 1 => ("CoreBook", "images", "[LCoreBook$Page;", true)
  | 2 => ("CoreBook", "shown", "LCoreBook$Thing;", false)
  | 3 => ("CoreBook", "held", "LCoreBook$Thing;", false)
  | 4 => ("CoreBook", "clip", "LCoreBook$Row;", false)
  | 5 => ("CoreBook", "pairs", "LCoreBook$Pairs;", false)
  | 6 => ("CoreBook", "draft", "LCoreBook$Pairs;", false)
  | 7 => ("CoreBook", "ones", "LCoreBook$Readings;", true)
  | 8 => ("CoreBook", "others", "LCoreBook$Readings;", true)
  | 9 => ("CoreBook", "weights", "[I", true)
  | 10 => ("CoreBook", "stones", "I", false)
  | 11 => ("CoreBook", "tally", "LCoreBook$Tally;", true)
  | _ => ("CoreBook", "kept", "I", false)
def xY_6 : Nat → FieldType := fun k => match k with
  | 0 => (.object "CoreBook$Page")
  | 1 => (.array (.object "CoreBook$Page"))
  | 2 => (.object "CoreBook$Thing")
  | 3 => (.object "CoreBook$Thing")
  | 4 => (.object "CoreBook$Row")
  | 5 => (.object "CoreBook$Pairs")
  | 6 => (.object "CoreBook$Pairs")
  | 7 => (.object "CoreBook$Readings")
  | 8 => (.object "CoreBook$Readings")
  | 9 => (.array .int)
  | 10 => .int
  | 11 => (.object "CoreBook$Tally")
  | _ => .int
theorem xn_6 : ∀ a, a < 13 → ∀ b, b < 13 → a ≠ b → (xT_6 a).2.1 ≠ (xT_6 b).2.1 := by decide +kernel
theorem xt_6 : ∀ k, k < 13 → parseFieldDescriptor (xT_6 k).2.2.1 = some (xY_6 k) := by decide +kernel
def xT_7 : u_T := fun k => match k with
  | 0 => ("CoreBookModel", "kinds", "[I", true)
  | 1 => ("CoreBookModel", "sizes", "[I", true)
  | 2 => ("CoreBookModel", "tags", "[I", true)
  | 3 => ("CoreBookModel", "numbers", "[J", true)
  | 4 => ("CoreBookModel", "reals", "[D", true)
  | 5 => ("CoreBookModel", "hangs", "[I", true)
  | 6 => ("CoreBookModel", "clip", "I", false)
  | 7 => ("CoreBookModel", "handTag", "I", false)
  | 8 => ("CoreBookModel", "handNumbe\x72", "J", false)
  | 9 => ("CoreBookModel", "handReal", "D", false)
  | 10 => ("CoreBookModel", "glass", "J", false)
  | 11 => ("CoreBookModel", "weights", "[I", true)
  | 12 => ("CoreBookModel", "gems", "[Z", true)
  | 13 => ("CoreBookModel", "stones", "I", false)
  | 14 => ("CoreBookModel", "met", "[I", true)
  | 15 => ("CoreBookModel", "kept", "I", false)
  | 16 => ("CoreBookModel", "lefts", "[I", true)
  | 17 => ("CoreBookModel", "rights", "[I", true)
  | 18 => ("CoreBookModel", "pairs", "I", false)
  | 19 => ("CoreBookModel", "madeNumbe\x72", "J", false)
  | 20 => ("CoreBookModel", "madeReal", "D", false)
  | 21 => ("CoreBookModel", "readNumbe\x72", "J", false)
  | 22 => ("CoreBookModel", "readReal", "D", false)
  | 23 => ("CoreBookModel", "allNumbers", "[J", true)
  | 24 => ("CoreBookModel", "allReals", "[D", true)
  | 25 => ("CoreBookModel", "many", "I", false)
  | 26 => ("CoreBookModel", "isKept", "[Z", true)
  | 27 => ("CoreBookModel", "imageHangs", "[I", true)
  | 28 => ("CoreBookModel", "imageFirsts", "[I", true)
  | 29 => ("CoreBookModel", "imageKinds", "[I", true)
  | 30 => ("CoreBookModel", "imageSizes", "[I", true)
  | 31 => ("CoreBookModel", "imageTags", "[I", true)
  | 32 => ("CoreBookModel", "imageNumbers", "[J", true)
  | _ => ("CoreBookModel", "imageReals", "[D", true)
def xY_7 : Nat → FieldType := fun k => match k with
  | 0 => (.array .int)
  | 1 => (.array .int)
  | 2 => (.array .int)
  | 3 => (.array .long)
  | 4 => (.array .double)
  | 5 => (.array .int)
  | 6 => .int
  | 7 => .int
  | 8 => .long
  | 9 => .double
  | 10 => .long
  | 11 => (.array .int)
  | 12 => (.array .boolean)
  | 13 => .int
  | 14 => (.array .int)
  | 15 => .int
  | 16 => (.array .int)
  | 17 => (.array .int)
  | 18 => .int
  | 19 => .long
  | 20 => .double
  | 21 => .long
  | 22 => .double
  | 23 => (.array .long)
  | 24 => (.array .double)
  | 25 => .int
  | 26 => (.array .boolean)
  | 27 => (.array .int)
  | 28 => (.array .int)
  | 29 => (.array .int)
  | 30 => (.array .int)
  | 31 => (.array .int)
  | 32 => (.array .long)
  | _ => (.array .double)
theorem xn_7 : ∀ a, a < 34 → ∀ b, b < 34 → a ≠ b → (xT_7 a).2.1 ≠ (xT_7 b).2.1 := by decide +kernel
theorem xt_7 : ∀ k, k < 34 → parseFieldDescriptor (xT_7 k).2.2.1 = some (xY_7 k) := by decide +kernel
abbrev xcl : List vw_C := [(xcs 0, xT_0, 1), (xcs 1, xT_1, 3), (xcs 2, xT_2, 3), (xcs 3, xT_3, 3), (xcs 4, xT_4, 1), (xcs 5, xT_5, 3), (xcs 6, xT_6, 13), (xcs 7, xT_7, 34)]
def xTT (c : Nat) : u_T := match c with
  | 0 => xT_0
  | 1 => xT_1
  | 2 => xT_2
  | 3 => xT_3
  | 4 => xT_4
  | 5 => xT_5
  | 6 => xT_6
  | _ => xT_7
def xYY (c : Nat) : Nat → FieldType := match c with
  | 0 => xY_0
  | 1 => xY_1
  | 2 => xY_2
  | 3 => xY_3
  | 4 => xY_4
  | 5 => xY_5
  | 6 => xY_6
  | _ => xY_7
def xf1 {β : Type} : List (Nat × β) → Nat → Option β
  | [], _ => none
  | (p, x) :: r, q => bif Nat.beq p q then some x else xf1 r q
def xf2 {β : Type} : List (Nat × List (Nat × β)) → Nat → Option β
  | [], _ => none
  | (p, es) :: r, q => bif Nat.blt q p then xf1 es q else xf2 r q
/-- a method: local variables, rank -/
def xinf : List (Nat × List (Nat × (Nat × Nat))) := [(12, [(0, (3, 2)), (1, (2, 0)), (2, (3, 0)), (3, (6, 4)), (4, (3, 0)), (5, (1, 1)), (6, (1, 0)), (7, (3, 0)), (8, (1, 0)), (9, (2, 0)), (10, (3, 1)), (11, (1, 2))]),
  (24, [(12, (1, 0)), (13, (2, 0)), (14, (1, 0)), (15, (2, 0)), (16, (8, 2)), (17, (4, 2)), (18, (1, 0)), (19, (1, 0)), (20, (2, 0)), (21, (2, 1)), (22, (3, 3)), (23, (6, 4))]),
  (36, [(24, (5, 3)), (25, (3, 2)), (26, (3, 1)), (27, (1, 1)), (28, (3, 0)), (29, (3, 0)), (30, (3, 0)), (31, (6, 1)), (32, (3, 2)), (33, (1, 0)), (34, (1, 1)), (35, (2, 2))]),
  (48, [(36, (2, 1)), (37, (1, 1)), (38, (12, 0)), (39, (1, 3)), (40, (4, 4)), (41, (6, 4)), (42, (4, 1)), (43, (5, 3)), (44, (4, 5)), (45, (1, 2)), (46, (6, 6)), (47, (3, 4))]),
  (60, [(48, (3, 6)), (49, (5, 3)), (50, (2, 2)), (51, (3, 1)), (52, (7, 5)), (53, (7, 5)), (54, (7, 5)), (55, (4, 2)), (56, (7, 6)), (57, (3, 6)), (58, (8, 6)), (59, (4, 6))]),
  (72, [(60, (3, 2)), (61, (9, 4)), (62, (2, 5)), (63, (3, 5)), (64, (3, 1)), (65, (2, 2)), (66, (1, 0)), (67, (1, 0)), (68, (2, 0)), (69, (1, 0)), (70, (2, 1)), (71, (1, 0))]),
  (84, [(72, (2, 1)), (73, (3, 3)), (74, (3, 2)), (75, (3, 0)), (76, (1, 2)), (77, (3, 3)), (78, (7, 4)), (79, (7, 5)), (80, (6, 3)), (81, (6, 5)), (82, (3, 4)), (83, (6, 5))]),
  (96, [(84, (2, 2)), (85, (3, 2)), (86, (2, 1)), (87, (2, 1)), (88, (6, 0)), (89, (1, 1)), (90, (2, 1)), (91, (2, 2)), (92, (6, 0)), (93, (5, 1)), (94, (7, 0)), (95, (3, 1))]),
  (108, [(96, (4, 0)), (97, (2, 0)), (98, (6, 0)), (99, (6, 0)), (100, (8, 0)), (101, (5, 1)), (102, (5, 2)), (103, (3, 0)), (104, (7, 3)), (105, (3, 2)), (106, (3, 0)), (107, (3, 3))]),
  (120, [(108, (6, 3)), (109, (4, 4)), (110, (1, 0)), (111, (9, 3)), (112, (6, 4)), (113, (8, 1)), (114, (2, 1)), (115, (3, 3)), (116, (5, 4)), (117, (4, 4)), (118, (3, 5)), (119, (3, 5))]),
  (132, [(120, (4, 1)), (121, (1, 0)), (122, (2, 2)), (123, (2, 1)), (124, (9, 3)), (125, (4, 2)), (126, (6, 2)), (127, (7, 3)), (128, (7, 3)), (129, (4, 3)), (130, (7, 5)), (131, (8, 6))]),
  (144, [(132, (6, 4)), (133, (9, 5)), (134, (9, 0)), (135, (7, 5)), (136, (4, 1)), (137, (7, 5)), (138, (3, 1)), (139, (7, 3)), (140, (3, 0)), (141, (6, 2)), (142, (6, 2)), (143, (3, 1))]),
  (149, [(144, (3, 0)), (145, (2, 2)), (146, (2, 3)), (147, (4, 0)), (148, (4, 7))])]
def xml (m : Nat) : Nat := match xf2 xinf m with
  | some q => q.1
  | none => 0
def xrk (m : Nat) : Nat := match xf2 xinf m with
  | some q => q.2
  | none => 0
abbrev xMd : Type := Nat × MethodName × ByteArray × Option FieldType
def xmd : List (Nat × List (Nat × xMd)) := [(12, [(0, (0, ⟨xcs 0, "<init>", "()V"⟩, prog_3_method_1_code, none)), (1, (0, ⟨xcs 0, "at", "(I)LCoreBook$Holding;"⟩, prog_3_method_2_code, some (.object "CoreBook$Holding"))), (2, (0, ⟨xcs 0, "put", "(ILCoreBook$Holding;)V"⟩, prog_3_method_3_code, none)), (3, (0, ⟨xcs 0, "twin", "()LCoreBook$Page;"⟩, prog_3_method_4_code, some (.object "CoreBook$Page"))), (4, (0, ⟨xcs 0, "firstWith", "(LCoreBook$Holding;)I"⟩, prog_3_method_5_code, some .int)), (5, (1, ⟨xcs 1, "<init>", "()V"⟩, prog_4_method_1_code, none)), (6, (1, ⟨xcs 1, "clea\x72", "()V"⟩, prog_4_method_2_code, none)), (7, (1, ⟨xcs 1, "add", "(II)Z"⟩, prog_4_method_3_code, some .boolean)), (8, (1, ⟨xcs 1, "size", "()I"⟩, prog_4_method_4_code, some .int)), (9, (1, ⟨xcs 1, "has", "(I)Z"⟩, prog_4_method_5_code, some .boolean)), (10, (1, ⟨xcs 1, "index", "(II)I"⟩, prog_4_method_6_code, some .int)), (11, (2, ⟨xcs 2, "<init>", "()V"⟩, prog_5_method_1_code, none))]),
  (24, [(12, (2, ⟨xcs 2, "clea\x72", "()V"⟩, prog_5_method_2_code, none)), (13, (2, ⟨xcs 2, "add", "(LCoreBook$Thing;)V"⟩, prog_5_method_3_code, none)), (14, (2, ⟨xcs 2, "size", "()I"⟩, prog_5_method_4_code, some .int)), (15, (2, ⟨xcs 2, "at", "(I)LCoreBook$Thing;"⟩, prog_5_method_5_code, some (.object "CoreBook$Thing"))), (16, (2, ⟨xcs 2, "total", "(I)LCoreBook$Thing;"⟩, prog_5_method_6_code, some (.object "CoreBook$Thing"))), (17, (3, ⟨xcs 3, "<init>", "(II)V"⟩, prog_6_method_1_code, none)), (18, (3, ⟨xcs 3, "content", "()I"⟩, prog_6_method_2_code, some .int)), (19, (3, ⟨xcs 3, "size", "()I"⟩, prog_6_method_3_code, some .int)), (20, (3, ⟨xcs 3, "has", "(I)Z"⟩, prog_6_method_4_code, some .boolean)), (21, (3, ⟨xcs 3, "at", "(I)LCoreBook$Thing;"⟩, prog_6_method_5_code, some (.object "CoreBook$Thing"))), (22, (3, ⟨xcs 3, "put", "(ILCoreBook$Thing;)V"⟩, prog_6_method_6_code, none)), (23, (3, ⟨xcs 3, "copy", "(LCoreBook$Row;III)V"⟩, prog_6_method_7_code, none))]),
  (36, [(24, (3, ⟨xcs 3, "part", "(II)LCoreBook$Row;"⟩, prog_6_method_8_code, some (.object "CoreBook$Row"))), (25, (3, ⟨xcs 3, "firstUnfit", "(I)I"⟩, prog_6_method_9_code, some .int)), (26, (3, ⟨xcs 3, "commonHomes", "()I"⟩, prog_6_method_10_code, some .int)), (27, (4, ⟨xcs 4, "<init>", "()V"⟩, prog_7_method_1_code, none)), (28, (4, ⟨xcs 4, "add", "(II)I"⟩, prog_7_method_2_code, some .int)), (29, (4, ⟨xcs 4, "of", "(II)I"⟩, prog_7_method_3_code, some .int)), (30, (4, ⟨xcs 4, "different", "()I"⟩, prog_7_method_4_code, some .int)), (31, (5, ⟨xcs 5, "<init>", "(IJD)V"⟩, prog_8_method_1_code, none)), (32, (5, ⟨xcs 5, "numbe\x72", "(IJ)LCoreBook$Thing;"⟩, prog_8_method_2_code, some (.object "CoreBook$Thing"))), (33, (5, ⟨xcs 5, "isStone", "()Z"⟩, prog_8_method_3_code, some .boolean)), (34, (5, ⟨xcs 5, "content", "()I"⟩, prog_8_method_4_code, some .int)), (35, (5, ⟨xcs 5, "widened", "(I)LCoreBook$Thing;"⟩, prog_8_method_5_code, some (.object "CoreBook$Thing")))]),
  (48, [(36, (5, ⟨xcs 5, "orde\x72", "(LCoreBook$Thing;)I"⟩, prog_8_method_6_code, some .int)), (37, (5, ⟨xcs 5, "code", "()J"⟩, prog_8_method_7_code, some .long)), (38, (5, ⟨xcs 5, "bits", "(DIII)J"⟩, prog_8_method_8_code, some .long)), (39, (6, ⟨xcs 6, "<init>", "()V"⟩, prog_1_method_1_code, none)), (40, (6, ⟨xcs 6, "open", "(III)I"⟩, prog_1_method_2_code, some .int)), (41, (6, ⟨xcs 6, "hang", "(III)I"⟩, prog_1_method_3_code, some .int)), (42, (6, ⟨xcs 6, "same", "(II)I"⟩, prog_1_method_4_code, some .int)), (43, (6, ⟨xcs 6, "length", "(I)I"⟩, prog_1_method_5_code, some .int)), (44, (6, ⟨xcs 6, "read", "(III)I"⟩, prog_1_method_6_code, some .int)), (45, (6, ⟨xcs 6, "glass", "()J"⟩, prog_1_method_7_code, some .long)), (46, (6, ⟨xcs 6, "write", "(IIIJ)I"⟩, prog_1_method_8_code, some .int)), (47, (6, ⟨xcs 6, "take", "(II)I"⟩, prog_1_method_9_code, some .int))]),
  (60, [(48, (6, ⟨xcs 6, "lay", "(II)I"⟩, prog_1_method_10_code, some .int)), (49, (6, ⟨xcs 6, "hand", "(IJ)I"⟩, prog_1_method_11_code, some .int)), (50, (6, ⟨xcs 6, "inHand", "(I)J"⟩, prog_1_method_12_code, some .long)), (51, (6, ⟨xcs 6, "chip", "(I)I"⟩, prog_1_method_13_code, some .int)), (52, (6, ⟨xcs 6, "cut", "(III)I"⟩, prog_1_method_14_code, some .int)), (53, (6, ⟨xcs 6, "paste", "(II)I"⟩, prog_1_method_15_code, some .int)), (54, (6, ⟨xcs 6, "turn", "(II)I"⟩, prog_1_method_16_code, some .int)), (55, (6, ⟨xcs 6, "fits", "(I)I"⟩, prog_1_method_17_code, some .int)), (56, (6, ⟨xcs 6, "pou\x72", "(IIIII)I"⟩, prog_1_method_18_code, some .int)), (57, (6, ⟨xcs 6, "sum", "(II)I"⟩, prog_1_method_19_code, some .int)), (58, (6, ⟨xcs 6, "where", "(IIIJ)I"⟩, prog_1_method_20_code, some .int)), (59, (6, ⟨xcs 6, "meet", "(III)I"⟩, prog_1_method_21_code, some .int))]),
  (72, [(60, (6, ⟨xcs 6, "pai\x72", "(II)I"⟩, prog_1_method_22_code, some .int)), (61, (6, ⟨xcs 6, "gathe\x72", "(III)I"⟩, prog_1_method_23_code, some .int)), (62, (6, ⟨xcs 6, "image", "(I)I"⟩, prog_1_method_24_code, some .int)), (63, (6, ⟨xcs 6, "restore", "(I)I"⟩, prog_1_method_25_code, some .int)), (64, (6, ⟨xcs 6, "met", "(II)I"⟩, prog_1_method_26_code, some .int)), (65, (6, ⟨xcs 6, "count", "(I)I"⟩, prog_1_method_27_code, some .int)), (66, (6, ⟨xcs 6, "isColumn", "(I)Z"⟩, prog_1_method_28_code, some .boolean)), (67, (6, ⟨xcs 6, "isNumberType", "(I)Z"⟩, prog_1_method_29_code, some .boolean)), (68, (6, ⟨xcs 6, "isLabel", "(J)Z"⟩, prog_1_method_30_code, some .boolean)), (69, (6, ⟨xcs 6, "isImage", "(I)Z"⟩, prog_1_method_31_code, some .boolean)), (70, (6, ⟨xcs 6, "canBeOpened", "(II)Z"⟩, prog_1_method_32_code, some .boolean)), (71, (6, ⟨xcs 6, "homesOf", "(I)I"⟩, prog_1_method_33_code, some .int))]),
  (84, [(72, (6, ⟨xcs 6, "fitsInto", "(II)Z"⟩, prog_1_method_34_code, some .boolean)), (73, (6, ⟨xcs 6, "opened", "(II)LCoreBook$Holding;"⟩, prog_1_method_35_code, some (.object "CoreBook$Holding"))), (74, (6, ⟨xcs 6, "newStone", "(II)LCoreBook$Thing;"⟩, prog_1_method_36_code, some (.object "CoreBook$Thing"))), (75, (6, ⟨xcs 6, "weightOf", "(LCoreBook$Thing;)I"⟩, prog_1_method_37_code, some .int)), (76, (6, ⟨xcs 6, "answerToLength", "(LCoreBook$Holding;)I"⟩, prog_1_method_38_code, some .int)), (77, (6, ⟨xcs 6, "answerToNumbe\x72", "(LCoreBook$Holding;I)I"⟩, prog_1_method_39_code, some .int)), (78, (6, ⟨xcs 6, "accessToRead", "(III)I"⟩, prog_1_method_40_code, some .int)), (79, (6, ⟨xcs 6, "accessToWrite", "(IILCoreBook$Thing;)I"⟩, prog_1_method_41_code, some .int)), (80, (6, ⟨xcs 6, "accessToTake", "(II)I"⟩, prog_1_method_42_code, some .int)), (81, (6, ⟨xcs 6, "accessToLay", "(II)I"⟩, prog_1_method_43_code, some .int)), (82, (6, ⟨xcs 6, "putIfFit", "(LCoreBook$Row;ILCoreBook$Thing;)I"⟩, prog_1_method_44_code, some .int)), (83, (6, ⟨xcs 6, "readAll", "(IILCoreBook$Readings;)I"⟩, prog_1_method_45_code, some .int))]),
  (96, [(84, (6, ⟨xcs 6, "showIndex", "(I)V"⟩, prog_1_method_46_code, none)), (85, (6, ⟨xcs 6, "draftEqualOnes", "()Z"⟩, prog_1_method_47_code, some .boolean)), (86, (6, ⟨xcs 6, "adoptDraft", "()I"⟩, prog_1_method_48_code, some .int)), (87, (7, ⟨xcs 7, "<init>", "()V"⟩, prog_10_method_1_code, none)), (88, (7, ⟨xcs 7, "in", "(JJJ)Z"⟩, prog_10_method_2_code, some .boolean)), (89, (7, ⟨xcs 7, "isColumn", "(I)Z"⟩, prog_10_method_3_code, some .boolean)), (90, (7, ⟨xcs 7, "isRow", "(I)Z"⟩, prog_10_method_4_code, some .boolean)), (91, (7, ⟨xcs 7, "first", "(I)I"⟩, prog_10_method_5_code, some .int)), (92, (7, ⟨xcs 7, "free", "(I)I"⟩, prog_10_method_6_code, some .int)), (93, (7, ⟨xcs 7, "begin", "(III)V"⟩, prog_10_method_7_code, none)), (94, (7, ⟨xcs 7, "put", "(IIJD)V"⟩, prog_10_method_8_code, none)), (95, (7, ⟨xcs 7, "copy", "(II)V"⟩, prog_10_method_9_code, none))]),
  (108, [(96, (7, ⟨xcs 7, "make", "(IJ)V"⟩, prog_10_method_10_code, none)), (97, (7, ⟨xcs 7, "widens", "(II)Z"⟩, prog_10_method_11_code, some .boolean)), (98, (7, ⟨xcs 7, "widened", "(IIJD)D"⟩, prog_10_method_12_code, some .double)), (99, (7, ⟨xcs 7, "floatBits", "(D)I"⟩, prog_10_method_13_code, some .int)), (100, (7, ⟨xcs 7, "doubleBits", "(D)J"⟩, prog_10_method_14_code, some .long)), (101, (7, ⟨xcs 7, "told", "(IJD)J"⟩, prog_10_method_15_code, some .long)), (102, (7, ⟨xcs 7, "open", "(III)I"⟩, prog_10_method_16_code, some .int)), (103, (7, ⟨xcs 7, "newStone", "(IZ)I"⟩, prog_10_method_17_code, some .int)), (104, (7, ⟨xcs 7, "hang", "(III)I"⟩, prog_10_method_18_code, some .int)), (105, (7, ⟨xcs 7, "same", "(II)I"⟩, prog_10_method_19_code, some .int)), (106, (7, ⟨xcs 7, "counted", "(II)I"⟩, prog_10_method_20_code, some .int)), (107, (7, ⟨xcs 7, "length", "(I)I"⟩, prog_10_method_21_code, some .int))]),
  (120, [(108, (7, ⟨xcs 7, "read0", "(III)I"⟩, prog_10_method_22_code, some .int)), (109, (7, ⟨xcs 7, "read", "(III)I"⟩, prog_10_method_23_code, some .int)), (110, (7, ⟨xcs 7, "glass", "()J"⟩, prog_10_method_24_code, some .long)), (111, (7, ⟨xcs 7, "write0", "(IIIJD)I"⟩, prog_10_method_25_code, some .int)), (112, (7, ⟨xcs 7, "write", "(IIIJ)I"⟩, prog_10_method_26_code, some .int)), (113, (7, ⟨xcs 7, "lay0", "(IIIJD)V"⟩, prog_10_method_27_code, none)), (114, (7, ⟨xcs 7, "canHold", "(II)Z"⟩, prog_10_method_28_code, some .boolean)), (115, (7, ⟨xcs 7, "cellOf", "(II)I"⟩, prog_10_method_29_code, some .int)), (116, (7, ⟨xcs 7, "take0", "(II)I"⟩, prog_10_method_30_code, some .int)), (117, (7, ⟨xcs 7, "putDown", "(II)I"⟩, prog_10_method_31_code, some .int)), (118, (7, ⟨xcs 7, "take", "(II)I"⟩, prog_10_method_32_code, some .int)), (119, (7, ⟨xcs 7, "lay", "(II)I"⟩, prog_10_method_33_code, some .int))]),
  (132, [(120, (7, ⟨xcs 7, "hand", "(IJ)I"⟩, prog_10_method_34_code, some .int)), (121, (7, ⟨xcs 7, "hasStone", "()Z"⟩, prog_10_method_35_code, some .boolean)), (122, (7, ⟨xcs 7, "inHand", "(I)J"⟩, prog_10_method_36_code, some .long)), (123, (7, ⟨xcs 7, "chip", "(I)I"⟩, prog_10_method_37_code, some .int)), (124, (7, ⟨xcs 7, "cut", "(III)I"⟩, prog_10_method_38_code, some .int)), (125, (7, ⟨xcs 7, "unfit", "(II)I"⟩, prog_10_method_39_code, some .int)), (126, (7, ⟨xcs 7, "layCell", "(IIII)V"⟩, prog_10_method_40_code, none)), (127, (7, ⟨xcs 7, "paste", "(II)I"⟩, prog_10_method_41_code, some .int)), (128, (7, ⟨xcs 7, "turn", "(II)I"⟩, prog_10_method_42_code, some .int)), (129, (7, ⟨xcs 7, "fits", "(I)I"⟩, prog_10_method_43_code, some .int)), (130, (7, ⟨xcs 7, "pourOne", "(IIIII)I"⟩, prog_10_method_44_code, some .int)), (131, (7, ⟨xcs 7, "pou\x72", "(IIIII)I"⟩, prog_10_method_45_code, some .int))]),
  (144, [(132, (7, ⟨xcs 7, "readAll", "(III)I"⟩, prog_10_method_46_code, some .int)), (133, (7, ⟨xcs 7, "sum", "(II)I"⟩, prog_10_method_47_code, some .int)), (134, (7, ⟨xcs 7, "orde\x72", "(IJDJD)I"⟩, prog_10_method_48_code, some .int)), (135, (7, ⟨xcs 7, "where", "(IIIJ)I"⟩, prog_10_method_49_code, some .int)), (136, (7, ⟨xcs 7, "areEqual", "(III)Z"⟩, prog_10_method_50_code, some .boolean)), (137, (7, ⟨xcs 7, "meet", "(III)I"⟩, prog_10_method_51_code, some .int)), (138, (7, ⟨xcs 7, "pai\x72", "(II)I"⟩, prog_10_method_52_code, some .int)), (139, (7, ⟨xcs 7, "gathe\x72", "(III)I"⟩, prog_10_method_53_code, some .int)), (140, (7, ⟨xcs 7, "firstWith", "(I)I"⟩, prog_10_method_54_code, some .int)), (141, (7, ⟨xcs 7, "image", "(I)I"⟩, prog_10_method_55_code, some .int)), (142, (7, ⟨xcs 7, "restore", "(I)I"⟩, prog_10_method_56_code, some .int)), (143, (7, ⟨xcs 7, "met", "(II)I"⟩, prog_10_method_57_code, some .int))]),
  (149, [(144, (7, ⟨xcs 7, "unlike", "()I"⟩, prog_10_method_58_code, some .int)), (145, (7, ⟨xcs 7, "hung", "(I)I"⟩, prog_10_method_59_code, some .int)), (146, (7, ⟨xcs 7, "count", "(I)I"⟩, prog_10_method_60_code, some .int)), (147, (8, ⟨xcs 8, "compare", "(JJ)I"⟩, prog_11_method_42_code, some .int)), (148, (9, ⟨xcs 9, "law", "([I)Z"⟩, code, some .boolean))])]
def xmd0 : xMd := (0, ⟨"", "", ""⟩, .empty, none)
def xmi (m : Nat) : xMd := match xf2 xmd m with
  | some q => q
  | none => xmd0
abbrev xEn : Type := Instr × Nat × Nat × Nat × Option xV × List Bool
def xc_0 : List (Nat × List (Nat × xEn)) := [(10, [(0, (.aload_n 0, 1, 0, 0, none, [])), (1, (.invokespecial 3, 3, 1000, 1, none, [])), (4, (.aload_n 0, 1, 0, 0, none, [])), (5, (.bipush 10, 2, 0, 0, some (xI 10), [])), (7, (.anewarray 9, 3, 4, 0, none, []))]),
  (20, [(10, (.putfield 11, 3, 0, 0, some (xA none), [])), (13, (.new 17, 3, 5, 3, none, [])), (16, (.dup, 1, 0, 0, none, [])), (17, (.bipush 11, 2, 0, 0, some (xI 11), [])), (19, (.lconst 0, 1, 0, 0, some (xJ 0), []))]),
  (27, [(20, (.dconst 0, 1, 0, 0, some (xD 0), [])), (21, (.invokespecial 19, 3, 31, 4, none, [])), (24, (.astore_n 1, 1, 1, 0, none, [])), (25, (.iconst 0, 1, 0, 0, some (xI 0), [])), (26, (.istore_n 2, 1, 2, 0, none, []))]),
  (37, [(27, (.iload_n 2, 1, 2, 0, none, [true, true, true])), (28, (.bipush 10, 2, 0, 0, some (xI 10), [])), (30, (.if_icmp .ge 16, 3, 46, 0, none, [])), (33, (.aload_n 0, 1, 0, 0, none, [])), (34, (.getfield 11, 3, 0, 0, some (xA none), []))]),
  (46, [(37, (.iload_n 2, 1, 2, 0, none, [])), (38, (.aload_n 1, 1, 1, 0, none, [])), (39, (.aastore, 1, 0, 0, none, [])), (40, (.iinc 2 1, 3, 2, 0, some (xI (1)), [])), (43, (.goto (-16), 3, 27, 0, none, []))]),
  (47, [(46, (.return_, 1, 0, 0, none, []))])]
def xc_1 : List (Nat × List (Nat × xEn)) := [(4, [(0, (.aload_n 0, 1, 0, 0, none, [])), (1, (.getfield 11, 3, 0, 0, some (xA none), []))]),
  (6, [(4, (.iload_n 1, 1, 1, 0, none, [])), (5, (.aaload, 1, 0, 0, none, []))]),
  (7, [(6, (.areturn, 1, 0, 0, none, []))])]
def xc_2 : List (Nat × List (Nat × xEn)) := [(4, [(0, (.aload_n 0, 1, 0, 0, none, [])), (1, (.getfield 11, 3, 0, 0, some (xA none), []))]),
  (6, [(4, (.iload_n 1, 1, 1, 0, none, [])), (5, (.aload_n 2, 1, 2, 0, none, []))]),
  (8, [(6, (.aastore, 1, 0, 0, none, [])), (7, (.return_, 1, 0, 0, none, []))])]
def xc_3 : List (Nat × List (Nat × xEn)) := [(13, [(0, (.new 12, 3, 0, 1, none, [])), (3, (.dup, 1, 0, 0, none, [])), (4, (.invokespecial 22, 3, 0, 1, none, [])), (7, (.astore_n 1, 1, 1, 0, none, [])), (8, (.iconst 0, 1, 0, 0, some (xI 0), [])), (9, (.istore_n 2, 1, 2, 0, none, [])), (10, (.iload_n 2, 1, 2, 0, none, [true, true, true, false, false, false])), (11, (.bipush 10, 2, 0, 0, some (xI 10), []))]),
  (27, [(13, (.if_icmp .ge 95, 3, 108, 0, none, [])), (16, (.aload_n 0, 1, 0, 0, none, [])), (17, (.aload_n 0, 1, 0, 0, none, [])), (18, (.getfield 11, 3, 0, 0, some (xA none), [])), (21, (.iload_n 2, 1, 2, 0, none, [])), (22, (.aaload, 1, 0, 0, none, [])), (23, (.invokevirtual 23, 3, 4, 2, some (xI 0), [])), (26, (.istore_n 3, 1, 3, 0, none, []))]),
  (41, [(27, (.iload_n 3, 1, 3, 0, none, [])), (28, (.iload_n 2, 1, 2, 0, none, [])), (29, (.if_icmp .ge 18, 3, 47, 0, none, [])), (32, (.aload_n 1, 1, 1, 0, none, [])), (33, (.getfield 11, 3, 0, 0, some (xA none), [])), (36, (.iload_n 2, 1, 2, 0, none, [])), (37, (.aload_n 1, 1, 1, 0, none, [])), (38, (.getfield 11, 3, 0, 0, some (xA none), []))]),
  (53, [(41, (.iload_n 3, 1, 3, 0, none, [])), (42, (.aaload, 1, 0, 0, none, [])), (43, (.aastore, 1, 0, 0, none, [])), (44, (.goto 58, 3, 102, 0, none, [])), (47, (.aload_n 0, 1, 0, 0, none, [])), (48, (.getfield 11, 3, 0, 0, some (xA none), [])), (51, (.iload_n 2, 1, 2, 0, none, [])), (52, (.aaload, 1, 0, 0, none, []))]),
  (71, [(53, (.astore 5, 2, 5, 0, none, [])), (55, (.aload 5, 2, 5, 0, none, [])), (57, (.instanceof 27, 3, 3, 5, none, [])), (60, (.ifCond .eq 30, 3, 90, 0, none, [])), (63, (.aload 5, 2, 5, 0, none, [])), (65, (.checkcast 27, 3, 3, 5, none, [])), (68, (.astore 4, 2, 4, 0, none, [])), (70, (.aload_n 1, 1, 1, 0, none, []))]),
  (87, [(71, (.getfield 11, 3, 0, 0, some (xA none), [])), (74, (.iload_n 2, 1, 2, 0, none, [])), (75, (.aload 4, 2, 4, 0, none, [])), (77, (.iconst 0, 1, 0, 0, some (xI 0), [])), (78, (.aload 4, 2, 4, 0, none, [])), (80, (.invokevirtual 29, 3, 19, 49, some (xI 0), [])), (83, (.invokevirtual 33, 3, 24, 51, some (xA none), [])), (86, (.aastore, 1, 0, 0, none, []))]),
  (101, [(87, (.goto 15, 3, 102, 0, none, [])), (90, (.aload_n 1, 1, 1, 0, none, [])), (91, (.getfield 11, 3, 0, 0, some (xA none), [])), (94, (.iload_n 2, 1, 2, 0, none, [])), (95, (.aload_n 0, 1, 0, 0, none, [])), (96, (.getfield 11, 3, 0, 0, some (xA none), [])), (99, (.iload_n 2, 1, 2, 0, none, [])), (100, (.aaload, 1, 0, 0, none, []))]),
  (110, [(101, (.aastore, 1, 0, 0, none, [])), (102, (.iinc 2 1, 3, 2, 0, some (xI (1)), [])), (105, (.goto (-95), 3, 10, 0, none, [])), (108, (.aload_n 1, 1, 1, 0, none, [])), (109, (.areturn, 1, 0, 0, none, []))])]
def xc_4 : List (Nat × List (Nat × xEn)) := [(5, [(0, (.iconst 0, 1, 0, 0, some (xI 0), [])), (1, (.istore_n 2, 1, 2, 0, none, [])), (2, (.iload_n 2, 1, 2, 0, none, [true, true, true])), (3, (.bipush 10, 2, 0, 0, some (xI 10), []))]),
  (13, [(5, (.if_icmp .ge 21, 3, 26, 0, none, [])), (8, (.aload_n 0, 1, 0, 0, none, [])), (9, (.getfield 11, 3, 0, 0, some (xA none), [])), (12, (.iload_n 2, 1, 2, 0, none, []))]),
  (19, [(13, (.aaload, 1, 0, 0, none, [])), (14, (.aload_n 1, 1, 1, 0, none, [])), (15, (.if_acmp .ne 5, 3, 20, 0, none, [])), (18, (.iload_n 2, 1, 2, 0, none, []))]),
  (28, [(19, (.ireturn, 1, 0, 0, none, [])), (20, (.iinc 2 1, 3, 2, 0, some (xI (1)), [])), (23, (.goto (-21), 3, 2, 0, none, [])), (26, (.bipush 10, 2, 0, 0, some (xI 10), []))]),
  (29, [(28, (.ireturn, 1, 0, 0, none, []))])]
def xc_5 : List (Nat × List (Nat × xEn)) := [(7, [(0, (.aload_n 0, 1, 0, 0, none, [])), (1, (.invokespecial 3, 3, 1000, 1, none, [])), (4, (.aload_n 0, 1, 0, 0, none, [])), (5, (.bipush 24, 2, 0, 0, some (xI 24), []))]),
  (15, [(7, (.newarray .int, 2, 0, 0, none, [])), (9, (.putfield 9, 3, 1, 0, some (xA none), [])), (12, (.aload_n 0, 1, 0, 0, none, [])), (13, (.bipush 24, 2, 0, 0, some (xI 24), []))]),
  (22, [(15, (.newarray .int, 2, 0, 0, none, [])), (17, (.putfield 15, 3, 1, 1, some (xA none), [])), (20, (.aload_n 0, 1, 0, 0, none, [])), (21, (.iconst 0, 1, 0, 0, some (xI 0), []))]),
  (26, [(22, (.putfield 18, 3, 1, 2, some (xI 0), [])), (25, (.return_, 1, 0, 0, none, []))])]
def xc_6 : List (Nat × List (Nat × xEn)) := [(2, [(0, (.aload_n 0, 1, 0, 0, none, [])), (1, (.iconst 0, 1, 0, 0, some (xI 0), []))]),
  (6, [(2, (.putfield 18, 3, 1, 2, some (xI 0), [])), (5, (.return_, 1, 0, 0, none, []))])]
def xc_7 : List (Nat × List (Nat × xEn)) := [(10, [(0, (.aload_n 0, 1, 0, 0, none, [])), (1, (.getfield 18, 3, 1, 2, some (xI 0), [])), (4, (.bipush 24, 2, 0, 0, some (xI 24), [])), (6, (.if_icmp .lt 5, 3, 11, 0, none, [])), (9, (.iconst 0, 1, 0, 0, some (xI 0), []))]),
  (19, [(10, (.ireturn, 1, 0, 1, none, [])), (11, (.aload_n 0, 1, 0, 0, none, [])), (12, (.getfield 9, 3, 1, 0, some (xA none), [])), (15, (.aload_n 0, 1, 0, 0, none, [])), (16, (.getfield 18, 3, 1, 2, some (xI 0), []))]),
  (26, [(19, (.iload_n 1, 1, 1, 0, none, [])), (20, (.iastore, 1, 0, 0, none, [])), (21, (.aload_n 0, 1, 0, 0, none, [])), (22, (.getfield 15, 3, 1, 1, some (xA none), [])), (25, (.aload_n 0, 1, 0, 0, none, []))]),
  (33, [(26, (.getfield 18, 3, 1, 2, some (xI 0), [])), (29, (.iload_n 2, 1, 2, 0, none, [])), (30, (.iastore, 1, 0, 0, none, [])), (31, (.aload_n 0, 1, 0, 0, none, [])), (32, (.dup, 1, 0, 0, none, []))]),
  (42, [(33, (.getfield 18, 3, 1, 2, some (xI 0), [])), (36, (.iconst 1, 1, 0, 0, some (xI 1), [])), (37, (.iadd, 1, 0, 0, none, [])), (38, (.putfield 18, 3, 1, 2, some (xI 0), [])), (41, (.iconst 1, 1, 0, 0, some (xI 1), []))]),
  (43, [(42, (.ireturn, 1, 0, 1, none, []))])]
def xc_8 : List (Nat × List (Nat × xEn)) := [(4, [(0, (.aload_n 0, 1, 0, 0, none, [])), (1, (.getfield 18, 3, 1, 2, some (xI 0), []))]),
  (5, [(4, (.ireturn, 1, 0, 0, none, []))])]
def xc_9 : List (Nat × List (Nat × xEn)) := [(5, [(0, (.iload_n 1, 1, 1, 0, none, [])), (1, (.ifCond .lt 15, 3, 16, 0, none, [])), (4, (.iload_n 1, 1, 1, 0, none, []))]),
  (12, [(5, (.aload_n 0, 1, 0, 0, none, [])), (6, (.getfield 18, 3, 1, 2, some (xI 0), [])), (9, (.if_icmp .ge 7, 3, 16, 0, none, []))]),
  (17, [(12, (.iconst 1, 1, 0, 0, some (xI 1), [])), (13, (.goto 4, 3, 17, 0, none, [])), (16, (.iconst 0, 1, 0, 0, some (xI 0), []))]),
  (18, [(17, (.ireturn, 1, 0, 1, none, []))])]
def xc_10 : List (Nat × List (Nat × xEn)) := [(8, [(0, (.aload_n 0, 1, 0, 0, none, [])), (1, (.iload_n 1, 1, 1, 0, none, [])), (2, (.invokevirtual 22, 3, 9, 18, some (xI 0), [])), (5, (.ifCond .ne 6, 3, 11, 0, none, []))]),
  (15, [(8, (.bipush (-6), 2, 0, 0, some (xI (-6)), [])), (10, (.ireturn, 1, 0, 0, none, [])), (11, (.iload_n 2, 1, 2, 0, none, [])), (12, (.ifCond .ne 12, 3, 24, 0, none, []))]),
  (21, [(15, (.aload_n 0, 1, 0, 0, none, [])), (16, (.getfield 9, 3, 1, 0, some (xA none), [])), (19, (.iload_n 1, 1, 1, 0, none, [])), (20, (.iaload, 1, 0, 0, none, []))]),
  (29, [(21, (.goto 9, 3, 30, 0, none, [])), (24, (.aload_n 0, 1, 0, 0, none, [])), (25, (.getfield 15, 3, 1, 1, some (xA none), [])), (28, (.iload_n 1, 1, 1, 0, none, []))]),
  (31, [(29, (.iaload, 1, 0, 0, none, [])), (30, (.ireturn, 1, 0, 0, none, []))])]
def xc_11 : List (Nat × List (Nat × xEn)) := [(7, [(0, (.aload_n 0, 1, 0, 0, none, [])), (1, (.invokespecial 3, 3, 1000, 1, none, [])), (4, (.aload_n 0, 1, 0, 0, none, [])), (5, (.bipush 24, 2, 0, 0, some (xI 24), []))]),
  (17, [(7, (.anewarray 9, 3, 5, 0, none, [])), (10, (.putfield 11, 3, 2, 0, some (xA none), [])), (13, (.aload_n 0, 1, 0, 0, none, [])), (14, (.new 9, 3, 5, 3, none, []))]),
  (22, [(17, (.dup, 1, 0, 0, none, [])), (18, (.bipush 11, 2, 0, 0, some (xI 11), [])), (20, (.lconst 0, 1, 0, 0, some (xJ 0), [])), (21, (.dconst 0, 1, 0, 0, some (xD 0), []))]),
  (30, [(22, (.invokespecial 17, 3, 31, 4, none, [])), (25, (.putfield 20, 3, 2, 1, some (xA none), [])), (28, (.aload_n 0, 1, 0, 0, none, [])), (29, (.iconst 0, 1, 0, 0, some (xI 0), []))]),
  (34, [(30, (.putfield 24, 3, 2, 2, some (xI 0), [])), (33, (.return_, 1, 0, 0, none, []))])]
def xc_12 : List (Nat × List (Nat × xEn)) := [(2, [(0, (.aload_n 0, 1, 0, 0, none, [])), (1, (.iconst 0, 1, 0, 0, some (xI 0), []))]),
  (6, [(2, (.putfield 24, 3, 2, 2, some (xI 0), [])), (5, (.return_, 1, 0, 0, none, []))])]
def xc_13 : List (Nat × List (Nat × xEn)) := [(8, [(0, (.aload_n 0, 1, 0, 0, none, [])), (1, (.getfield 24, 3, 2, 2, some (xI 0), [])), (4, (.aload_n 0, 1, 0, 0, none, [])), (5, (.getfield 11, 3, 2, 0, some (xA none), []))]),
  (16, [(8, (.arraylength, 1, 0, 0, none, [])), (9, (.if_icmp .ge 23, 3, 32, 0, none, [])), (12, (.aload_n 0, 1, 0, 0, none, [])), (13, (.getfield 11, 3, 2, 0, some (xA none), []))]),
  (22, [(16, (.aload_n 0, 1, 0, 0, none, [])), (17, (.getfield 24, 3, 2, 2, some (xI 0), [])), (20, (.aload_n 1, 1, 1, 0, none, [])), (21, (.aastore, 1, 0, 0, none, []))]),
  (28, [(22, (.aload_n 0, 1, 0, 0, none, [])), (23, (.dup, 1, 0, 0, none, [])), (24, (.getfield 24, 3, 2, 2, some (xI 0), [])), (27, (.iconst 1, 1, 0, 0, some (xI 1), []))]),
  (33, [(28, (.iadd, 1, 0, 0, none, [])), (29, (.putfield 24, 3, 2, 2, some (xI 0), [])), (32, (.return_, 1, 0, 0, none, []))])]
def xc_14 : List (Nat × List (Nat × xEn)) := [(4, [(0, (.aload_n 0, 1, 0, 0, none, [])), (1, (.getfield 24, 3, 2, 2, some (xI 0), []))]),
  (5, [(4, (.ireturn, 1, 0, 0, none, []))])]
def xc_15 : List (Nat × List (Nat × xEn)) := [(6, [(0, (.iload_n 1, 1, 1, 0, none, [])), (1, (.ifCond .lt 20, 3, 21, 0, none, [])), (4, (.iload_n 1, 1, 1, 0, none, [])), (5, (.aload_n 0, 1, 0, 0, none, []))]),
  (16, [(6, (.getfield 24, 3, 2, 2, some (xI 0), [])), (9, (.if_icmp .ge 12, 3, 21, 0, none, [])), (12, (.aload_n 0, 1, 0, 0, none, [])), (13, (.getfield 11, 3, 2, 0, some (xA none), []))]),
  (22, [(16, (.iload_n 1, 1, 1, 0, none, [])), (17, (.aaload, 1, 0, 0, none, [])), (18, (.goto 7, 3, 25, 0, none, [])), (21, (.aload_n 0, 1, 0, 0, none, []))]),
  (26, [(22, (.getfield 20, 3, 2, 1, some (xA none), [])), (25, (.areturn, 1, 0, 0, none, []))])]
def xc_16 : List (Nat × List (Nat × xEn)) := [(11, [(0, (.lconst 0, 1, 0, 0, some (xJ 0), [])), (1, (.lstore_n 2, 1, 2, 0, none, [])), (2, (.dconst 0, 1, 0, 0, some (xD 0), [])), (3, (.dstore 4, 2, 4, 0, none, [])), (5, (.iconst 0, 1, 0, 0, some (xI 0), [])), (6, (.istore 6, 2, 6, 0, none, [])), (8, (.iload 6, 2, 6, 0, none, [true, true, true, false, true, false, true, false])), (10, (.aload_n 0, 1, 0, 0, none, []))]),
  (27, [(11, (.getfield 24, 3, 2, 2, some (xI 0), [])), (14, (.if_icmp .ge 56, 3, 70, 0, none, [])), (17, (.aload_n 0, 1, 0, 0, none, [])), (18, (.getfield 11, 3, 2, 0, some (xA none), [])), (21, (.iload 6, 2, 6, 0, none, [])), (23, (.aaload, 1, 0, 0, none, [])), (24, (.astore 7, 2, 7, 0, none, [])), (26, (.lload_n 2, 1, 2, 0, none, []))]),
  (42, [(27, (.aload 7, 2, 7, 0, none, [])), (29, (.getfield 28, 3, 5, 1, some (xJ 0), [])), (32, (.ladd, 1, 0, 0, none, [])), (33, (.lstore_n 2, 1, 2, 0, none, [])), (34, (.iload_n 1, 1, 1, 0, none, [])), (35, (.bipush 6, 2, 0, 0, some (xI 6), [])), (37, (.if_icmp .ne 17, 3, 54, 0, none, [])), (40, (.dload 4, 2, 4, 0, none, []))]),
  (56, [(42, (.d2f, 1, 0, 0, none, [])), (43, (.aload 7, 2, 7, 0, none, [])), (45, (.getfield 32, 3, 5, 2, some (xD 0), [])), (48, (.d2f, 1, 0, 0, none, [])), (49, (.fadd, 1, 0, 0, none, [])), (50, (.f2d, 1, 0, 0, none, [])), (51, (.goto 11, 3, 62, 0, none, [])), (54, (.dload 4, 2, 4, 0, none, []))]),
  (73, [(56, (.aload 7, 2, 7, 0, none, [])), (58, (.getfield 32, 3, 5, 2, some (xD 0), [])), (61, (.dadd, 1, 0, 0, none, [])), (62, (.dstore 4, 2, 4, 0, none, [])), (64, (.iinc 6 1, 3, 6, 0, some (xI (1)), [])), (67, (.goto (-59), 3, 8, 0, none, [])), (70, (.iload_n 1, 1, 1, 0, none, [])), (71, (.bipush 6, 2, 0, 0, some (xI 6), []))]),
  (88, [(73, (.if_icmp .eq 9, 3, 82, 0, none, [])), (76, (.iload_n 1, 1, 1, 0, none, [])), (77, (.bipush 7, 2, 0, 0, some (xI 7), [])), (79, (.if_icmp .ne 17, 3, 96, 0, none, [])), (82, (.new 9, 3, 5, 3, none, [])), (85, (.dup, 1, 0, 0, none, [])), (86, (.iload_n 1, 1, 1, 0, none, [])), (87, (.lconst 0, 1, 0, 0, some (xJ 0), []))]),
  (103, [(88, (.dload 4, 2, 4, 0, none, [])), (90, (.invokespecial 17, 3, 31, 4, none, [])), (93, (.goto 13, 3, 106, 0, none, [])), (96, (.new 9, 3, 5, 3, none, [])), (99, (.dup, 1, 0, 0, none, [])), (100, (.iconst 5, 1, 0, 0, some (xI 5), [])), (101, (.lload_n 2, 1, 2, 0, none, [])), (102, (.dconst 0, 1, 0, 0, some (xD 0), []))]),
  (107, [(103, (.invokespecial 17, 3, 31, 4, none, [])), (106, (.areturn, 1, 0, 0, none, []))])]
def xc_17 : List (Nat × List (Nat × xEn)) := [(10, [(0, (.aload_n 0, 1, 0, 0, none, [])), (1, (.invokespecial 3, 3, 1000, 1, none, [])), (4, (.aload_n 0, 1, 0, 0, none, [])), (5, (.iload_n 1, 1, 1, 0, none, [])), (6, (.putfield 9, 3, 3, 0, some (xI 0), [])), (9, (.aload_n 0, 1, 0, 0, none, []))]),
  (21, [(10, (.new 15, 3, 5, 3, none, [])), (13, (.dup, 1, 0, 0, none, [])), (14, (.iload_n 1, 1, 1, 0, none, [])), (15, (.bipush 7, 2, 0, 0, some (xI 7), [])), (17, (.if_icmp .gt 7, 3, 24, 0, none, [])), (20, (.iload_n 1, 1, 1, 0, none, []))]),
  (34, [(21, (.goto 5, 3, 26, 0, none, [])), (24, (.bipush 11, 2, 0, 0, some (xI 11), [])), (26, (.lconst 0, 1, 0, 0, some (xJ 0), [])), (27, (.dconst 0, 1, 0, 0, some (xD 0), [])), (28, (.invokespecial 17, 3, 31, 4, none, [])), (31, (.putfield 20, 3, 3, 2, some (xA none), []))]),
  (44, [(34, (.aload_n 0, 1, 0, 0, none, [])), (35, (.iload_n 2, 1, 2, 0, none, [])), (36, (.anewarray 15, 3, 5, 0, none, [])), (39, (.putfield 24, 3, 3, 1, some (xA none), [])), (42, (.iconst 0, 1, 0, 0, some (xI 0), [])), (43, (.istore_n 3, 1, 3, 0, none, []))]),
  (54, [(44, (.iload_n 3, 1, 3, 0, none, [true, false, true, true])), (45, (.iload_n 2, 1, 2, 0, none, [])), (46, (.if_icmp .ge 19, 3, 65, 0, none, [])), (49, (.aload_n 0, 1, 0, 0, none, [])), (50, (.getfield 24, 3, 3, 1, some (xA none), [])), (53, (.iload_n 3, 1, 3, 0, none, []))]),
  (66, [(54, (.aload_n 0, 1, 0, 0, none, [])), (55, (.getfield 20, 3, 3, 2, some (xA none), [])), (58, (.aastore, 1, 0, 0, none, [])), (59, (.iinc 3 1, 3, 3, 0, some (xI (1)), [])), (62, (.goto (-18), 3, 44, 0, none, [])), (65, (.return_, 1, 0, 0, none, []))])]
def xc_18 : List (Nat × List (Nat × xEn)) := [(4, [(0, (.aload_n 0, 1, 0, 0, none, [])), (1, (.getfield 9, 3, 3, 0, some (xI 0), []))]),
  (5, [(4, (.ireturn, 1, 0, 0, none, []))])]
def xc_19 : List (Nat × List (Nat × xEn)) := [(4, [(0, (.aload_n 0, 1, 0, 0, none, [])), (1, (.getfield 24, 3, 3, 1, some (xA none), []))]),
  (6, [(4, (.arraylength, 1, 0, 0, none, [])), (5, (.ireturn, 1, 0, 0, none, []))])]
def xc_20 : List (Nat × List (Nat × xEn)) := [(5, [(0, (.iload_n 1, 1, 1, 0, none, [])), (1, (.ifCond .lt 16, 3, 17, 0, none, [])), (4, (.iload_n 1, 1, 1, 0, none, []))]),
  (10, [(5, (.aload_n 0, 1, 0, 0, none, [])), (6, (.getfield 24, 3, 3, 1, some (xA none), [])), (9, (.arraylength, 1, 0, 0, none, []))]),
  (17, [(10, (.if_icmp .ge 7, 3, 17, 0, none, [])), (13, (.iconst 1, 1, 0, 0, some (xI 1), [])), (14, (.goto 4, 3, 18, 0, none, []))]),
  (19, [(17, (.iconst 0, 1, 0, 0, some (xI 0), [])), (18, (.ireturn, 1, 0, 1, none, []))])]
def xc_21 : List (Nat × List (Nat × xEn)) := [(5, [(0, (.aload_n 0, 1, 0, 0, none, [])), (1, (.iload_n 1, 1, 1, 0, none, [])), (2, (.invokevirtual 28, 3, 20, 50, some (xI 0), []))]),
  (12, [(5, (.ifCond .eq 12, 3, 17, 0, none, [])), (8, (.aload_n 0, 1, 0, 0, none, [])), (9, (.getfield 24, 3, 3, 1, some (xA none), []))]),
  (17, [(12, (.iload_n 1, 1, 1, 0, none, [])), (13, (.aaload, 1, 0, 0, none, [])), (14, (.goto 7, 3, 21, 0, none, []))]),
  (22, [(17, (.aload_n 0, 1, 0, 0, none, [])), (18, (.getfield 20, 3, 3, 2, some (xA none), [])), (21, (.areturn, 1, 0, 0, none, []))])]
def xc_22 : List (Nat × List (Nat × xEn)) := [(8, [(0, (.aload_n 0, 1, 0, 0, none, [])), (1, (.iload_n 1, 1, 1, 0, none, [])), (2, (.invokevirtual 28, 3, 20, 50, some (xI 0), [])), (5, (.ifCond .eq 30, 3, 35, 0, none, []))]),
  (14, [(8, (.aload_n 0, 1, 0, 0, none, [])), (9, (.getfield 24, 3, 3, 1, some (xA none), [])), (12, (.iload_n 1, 1, 1, 0, none, [])), (13, (.aload_n 0, 1, 0, 0, none, []))]),
  (23, [(14, (.getfield 9, 3, 3, 0, some (xI 0), [])), (17, (.bipush 7, 2, 0, 0, some (xI 7), [])), (19, (.if_icmp .gt 14, 3, 33, 0, none, [])), (22, (.aload_n 2, 1, 2, 0, none, []))]),
  (33, [(23, (.aload_n 0, 1, 0, 0, none, [])), (24, (.getfield 9, 3, 3, 0, some (xI 0), [])), (27, (.invokevirtual 32, 3, 35, 82, some (xA none), [])), (30, (.goto 4, 3, 34, 0, none, []))]),
  (36, [(33, (.aload_n 2, 1, 2, 0, none, [])), (34, (.aastore, 1, 0, 0, none, [])), (35, (.return_, 1, 0, 0, none, []))])]
def xc_23 : List (Nat × List (Nat × xEn)) := [(7, [(0, (.iconst 0, 1, 0, 0, some (xI 0), [])), (1, (.istore 5, 2, 5, 0, none, [])), (3, (.iload 5, 2, 5, 0, none, [true, true, true, true, true, true])), (5, (.iload 4, 2, 4, 0, none, []))]),
  (14, [(7, (.if_icmp .ge 25, 3, 32, 0, none, [])), (10, (.aload_n 0, 1, 0, 0, none, [])), (11, (.iload_n 3, 1, 3, 0, none, [])), (12, (.iload 5, 2, 5, 0, none, []))]),
  (19, [(14, (.iadd, 1, 0, 0, none, [])), (15, (.aload_n 1, 1, 1, 0, none, [])), (16, (.iload_n 2, 1, 2, 0, none, [])), (17, (.iload 5, 2, 5, 0, none, []))]),
  (29, [(19, (.iadd, 1, 0, 0, none, [])), (20, (.invokevirtual 36, 3, 21, 50, some (xA none), [])), (23, (.invokevirtual 39, 3, 22, 51, none, [])), (26, (.iinc 5 1, 3, 5, 0, some (xI (1)), []))]),
  (33, [(29, (.goto (-26), 3, 3, 0, none, [])), (32, (.return_, 1, 0, 0, none, []))])]
def xc_24 : List (Nat × List (Nat × xEn)) := [(9, [(0, (.new 10, 3, 3, 3, none, [])), (3, (.dup, 1, 0, 0, none, [])), (4, (.aload_n 0, 1, 0, 0, none, [])), (5, (.getfield 9, 3, 3, 0, some (xI 0), [])), (8, (.iload_n 2, 1, 2, 0, none, []))]),
  (18, [(9, (.invokespecial 43, 3, 17, 3, none, [])), (12, (.astore_n 3, 1, 3, 0, none, [])), (13, (.iconst 0, 1, 0, 0, some (xI 0), [])), (14, (.istore 4, 2, 4, 0, none, [])), (16, (.iload 4, 2, 4, 0, none, [true, true, true, true, true]))]),
  (28, [(18, (.iload_n 2, 1, 2, 0, none, [])), (19, (.if_icmp .ge 24, 3, 43, 0, none, [])), (22, (.aload_n 3, 1, 3, 0, none, [])), (23, (.getfield 24, 3, 3, 1, some (xA none), [])), (26, (.iload 4, 2, 4, 0, none, []))]),
  (36, [(28, (.aload_n 0, 1, 0, 0, none, [])), (29, (.iload_n 1, 1, 1, 0, none, [])), (30, (.iload 4, 2, 4, 0, none, [])), (32, (.iadd, 1, 0, 0, none, [])), (33, (.invokevirtual 36, 3, 21, 50, some (xA none), []))]),
  (45, [(36, (.aastore, 1, 0, 0, none, [])), (37, (.iinc 4 1, 3, 4, 0, some (xI (1)), [])), (40, (.goto (-24), 3, 16, 0, none, [])), (43, (.aload_n 3, 1, 3, 0, none, [])), (44, (.areturn, 1, 0, 0, none, []))])]
def xc_25 : List (Nat × List (Nat × xEn)) := [(7, [(0, (.iconst 0, 1, 0, 0, some (xI 0), [])), (1, (.istore_n 2, 1, 2, 0, none, [])), (2, (.iload_n 2, 1, 2, 0, none, [true, true, true])), (3, (.aload_n 0, 1, 0, 0, none, [])), (4, (.getfield 24, 3, 3, 1, some (xA none), []))]),
  (16, [(7, (.arraylength, 1, 0, 0, none, [])), (8, (.if_icmp .ge 27, 3, 35, 0, none, [])), (11, (.iload_n 1, 1, 1, 0, none, [])), (12, (.aload_n 0, 1, 0, 0, none, [])), (13, (.getfield 24, 3, 3, 1, some (xA none), []))]),
  (27, [(16, (.iload_n 2, 1, 2, 0, none, [])), (17, (.aaload, 1, 0, 0, none, [])), (18, (.getfield 46, 3, 5, 0, some (xI 0), [])), (21, (.invokestatic 49, 3, 72, 2, some (xI 0), [])), (24, (.ifCond .ne 5, 3, 29, 0, none, []))]),
  (36, [(27, (.iload_n 2, 1, 2, 0, none, [])), (28, (.ireturn, 1, 0, 0, none, [])), (29, (.iinc 2 1, 3, 2, 0, some (xI (1)), [])), (32, (.goto (-30), 3, 2, 0, none, [])), (35, (.aload_n 0, 1, 0, 0, none, []))]),
  (41, [(36, (.getfield 24, 3, 3, 1, some (xA none), [])), (39, (.arraylength, 1, 0, 0, none, [])), (40, (.ireturn, 1, 0, 0, none, []))])]
def xc_26 : List (Nat × List (Nat × xEn)) := [(7, [(0, (.sipush 8191, 3, 0, 0, some (xI 8191), [])), (3, (.istore_n 1, 1, 1, 0, none, [])), (4, (.iconst 0, 1, 0, 0, some (xI 0), [])), (5, (.istore_n 2, 1, 2, 0, none, [])), (6, (.iload_n 2, 1, 2, 0, none, [true, true, true]))]),
  (16, [(7, (.aload_n 0, 1, 0, 0, none, [])), (8, (.getfield 24, 3, 3, 1, some (xA none), [])), (11, (.arraylength, 1, 0, 0, none, [])), (12, (.if_icmp .ge 24, 3, 36, 0, none, [])), (15, (.iload_n 1, 1, 1, 0, none, []))]),
  (25, [(16, (.aload_n 0, 1, 0, 0, none, [])), (17, (.getfield 24, 3, 3, 1, some (xA none), [])), (20, (.iload_n 2, 1, 2, 0, none, [])), (21, (.aaload, 1, 0, 0, none, [])), (22, (.getfield 46, 3, 5, 0, some (xI 0), []))]),
  (36, [(25, (.invokestatic 53, 3, 71, 1, some (xI 0), [])), (28, (.iand, 1, 0, 0, none, [])), (29, (.istore_n 1, 1, 1, 0, none, [])), (30, (.iinc 2 1, 3, 2, 0, some (xI (1)), [])), (33, (.goto (-27), 3, 6, 0, none, []))]),
  (38, [(36, (.iload_n 1, 1, 1, 0, none, [])), (37, (.ireturn, 1, 0, 0, none, []))])]
def xc_27 : List (Nat × List (Nat × xEn)) := [(5, [(0, (.aload_n 0, 1, 0, 0, none, [])), (1, (.invokespecial 3, 3, 1000, 1, none, [])), (4, (.aload_n 0, 1, 0, 0, none, []))]),
  (12, [(5, (.bipush 114, 2, 0, 0, some (xI 114), [])), (7, (.newarray .int, 2, 0, 0, none, [])), (9, (.putfield 9, 3, 4, 0, some (xA none), []))]),
  (13, [(12, (.return_, 1, 0, 0, none, []))])]
def xc_28 : List (Nat × List (Nat × xEn)) := [(7, [(0, (.aload_n 0, 1, 0, 0, none, [])), (1, (.getfield 9, 3, 4, 0, some (xA none), [])), (4, (.iload_n 1, 1, 1, 0, none, [])), (5, (.bipush 6, 2, 0, 0, some (xI 6), []))]),
  (11, [(7, (.imul, 1, 0, 0, none, [])), (8, (.iload_n 2, 1, 2, 0, none, [])), (9, (.iadd, 1, 0, 0, none, [])), (10, (.dup2, 1, 0, 0, none, []))]),
  (15, [(11, (.iaload, 1, 0, 0, none, [])), (12, (.iconst 1, 1, 0, 0, some (xI 1), [])), (13, (.iadd, 1, 0, 0, none, [])), (14, (.iastore, 1, 0, 0, none, []))]),
  (17, [(15, (.iload_n 2, 1, 2, 0, none, [])), (16, (.ireturn, 1, 0, 0, none, []))])]
def xc_29 : List (Nat × List (Nat × xEn)) := [(5, [(0, (.aload_n 0, 1, 0, 0, none, [])), (1, (.getfield 9, 3, 4, 0, some (xA none), [])), (4, (.iload_n 1, 1, 1, 0, none, []))]),
  (9, [(5, (.bipush 6, 2, 0, 0, some (xI 6), [])), (7, (.imul, 1, 0, 0, none, [])), (8, (.iload_n 2, 1, 2, 0, none, []))]),
  (12, [(9, (.iadd, 1, 0, 0, none, [])), (10, (.iaload, 1, 0, 0, none, [])), (11, (.ireturn, 1, 0, 0, none, []))])]
def xc_30 : List (Nat × List (Nat × xEn)) := [(4, [(0, (.iconst 0, 1, 0, 0, some (xI 0), [])), (1, (.istore_n 1, 1, 1, 0, none, [])), (2, (.iconst 0, 1, 0, 0, some (xI 0), [])), (3, (.istore_n 2, 1, 2, 0, none, []))]),
  (10, [(4, (.iload_n 2, 1, 2, 0, none, [true, true, true])), (5, (.aload_n 0, 1, 0, 0, none, [])), (6, (.getfield 9, 3, 4, 0, some (xA none), [])), (9, (.arraylength, 1, 0, 0, none, []))]),
  (18, [(10, (.if_icmp .ge 21, 3, 31, 0, none, [])), (13, (.aload_n 0, 1, 0, 0, none, [])), (14, (.getfield 9, 3, 4, 0, some (xA none), [])), (17, (.iload_n 2, 1, 2, 0, none, []))]),
  (28, [(18, (.iaload, 1, 0, 0, none, [])), (19, (.ifCond .le 6, 3, 25, 0, none, [])), (22, (.iinc 1 1, 3, 1, 0, some (xI (1)), [])), (25, (.iinc 2 1, 3, 2, 0, some (xI (1)), []))]),
  (33, [(28, (.goto (-24), 3, 4, 0, none, [])), (31, (.iload_n 1, 1, 1, 0, none, [])), (32, (.ireturn, 1, 0, 0, none, []))])]
def xc_31 : List (Nat × List (Nat × xEn)) := [(5, [(0, (.aload_n 0, 1, 0, 0, none, [])), (1, (.invokespecial 3, 3, 1000, 1, none, [])), (4, (.aload_n 0, 1, 0, 0, none, []))]),
  (10, [(5, (.iload_n 1, 1, 1, 0, none, [])), (6, (.putfield 9, 3, 5, 0, some (xI 0), [])), (9, (.aload_n 0, 1, 0, 0, none, []))]),
  (15, [(10, (.lload_n 2, 1, 2, 0, none, [])), (11, (.putfield 15, 3, 5, 1, some (xJ 0), [])), (14, (.aload_n 0, 1, 0, 0, none, []))]),
  (21, [(15, (.dload 4, 2, 4, 0, none, [])), (17, (.putfield 19, 3, 5, 2, some (xD 0), [])), (20, (.return_, 1, 0, 0, none, []))])]
def xc_32 : List (Nat × List (Nat × xEn)) := [(57, [(0, (.iload_n 0, 1, 0, 0, none, [])), (1, (.tableswitch 147 0 7 #[47, 60, 74, 88, 102, 147, 115, 131], 47, 148, 0, none, [])), (48, (.new 10, 3, 5, 3, none, [])), (51, (.dup, 1, 0, 0, none, [])), (52, (.iload_n 0, 1, 0, 0, none, [])), (53, (.lload_n 1, 1, 1, 0, none, [])), (54, (.lconst 1, 1, 0, 0, some (xJ 1), [])), (55, (.land, 1, 0, 0, none, [])), (56, (.dconst 0, 1, 0, 0, some (xD 0), []))]),
  (70, [(57, (.invokespecial 23, 3, 31, 4, none, [])), (60, (.areturn, 1, 0, 0, none, [])), (61, (.new 10, 3, 5, 3, none, [])), (64, (.dup, 1, 0, 0, none, [])), (65, (.iload_n 0, 1, 0, 0, none, [])), (66, (.lload_n 1, 1, 1, 0, none, [])), (67, (.l2i, 1, 0, 0, none, [])), (68, (.i2b, 1, 0, 0, none, [])), (69, (.i2l, 1, 0, 0, none, []))]),
  (83, [(70, (.dconst 0, 1, 0, 0, some (xD 0), [])), (71, (.invokespecial 23, 3, 31, 4, none, [])), (74, (.areturn, 1, 0, 0, none, [])), (75, (.new 10, 3, 5, 3, none, [])), (78, (.dup, 1, 0, 0, none, [])), (79, (.iload_n 0, 1, 0, 0, none, [])), (80, (.lload_n 1, 1, 1, 0, none, [])), (81, (.l2i, 1, 0, 0, none, [])), (82, (.i2c, 1, 0, 0, none, []))]),
  (96, [(83, (.i2l, 1, 0, 0, none, [])), (84, (.dconst 0, 1, 0, 0, some (xD 0), [])), (85, (.invokespecial 23, 3, 31, 4, none, [])), (88, (.areturn, 1, 0, 0, none, [])), (89, (.new 10, 3, 5, 3, none, [])), (92, (.dup, 1, 0, 0, none, [])), (93, (.iload_n 0, 1, 0, 0, none, [])), (94, (.lload_n 1, 1, 1, 0, none, [])), (95, (.l2i, 1, 0, 0, none, []))]),
  (109, [(96, (.i2s, 1, 0, 0, none, [])), (97, (.i2l, 1, 0, 0, none, [])), (98, (.dconst 0, 1, 0, 0, some (xD 0), [])), (99, (.invokespecial 23, 3, 31, 4, none, [])), (102, (.areturn, 1, 0, 0, none, [])), (103, (.new 10, 3, 5, 3, none, [])), (106, (.dup, 1, 0, 0, none, [])), (107, (.iload_n 0, 1, 0, 0, none, [])), (108, (.lload_n 1, 1, 1, 0, none, []))]),
  (122, [(109, (.l2i, 1, 0, 0, none, [])), (110, (.i2l, 1, 0, 0, none, [])), (111, (.dconst 0, 1, 0, 0, some (xD 0), [])), (112, (.invokespecial 23, 3, 31, 4, none, [])), (115, (.areturn, 1, 0, 0, none, [])), (116, (.new 10, 3, 5, 3, none, [])), (119, (.dup, 1, 0, 0, none, [])), (120, (.iload_n 0, 1, 0, 0, none, [])), (121, (.lconst 0, 1, 0, 0, some (xJ 0), []))]),
  (136, [(122, (.lload_n 1, 1, 1, 0, none, [])), (123, (.l2f, 1, 0, 0, none, [])), (124, (.ldc 26, 2, 0, 0, some (xF 1090519040), [])), (126, (.fdiv, 1, 0, 0, none, [])), (127, (.f2d, 1, 0, 0, none, [])), (128, (.invokespecial 23, 3, 31, 4, none, [])), (131, (.areturn, 1, 0, 0, none, [])), (132, (.new 10, 3, 5, 3, none, [])), (135, (.dup, 1, 0, 0, none, []))]),
  (151, [(136, (.iload_n 0, 1, 0, 0, none, [])), (137, (.lconst 0, 1, 0, 0, some (xJ 0), [])), (138, (.lload_n 1, 1, 1, 0, none, [])), (139, (.l2d, 1, 0, 0, none, [])), (140, (.ldc2_w 27, 3, 0, 0, some (xD 4620693217682128896), [])), (143, (.ddiv, 1, 0, 0, none, [])), (144, (.invokespecial 23, 3, 31, 4, none, [])), (147, (.areturn, 1, 0, 0, none, [])), (148, (.new 10, 3, 5, 3, none, []))]),
  (159, [(151, (.dup, 1, 0, 0, none, [])), (152, (.iconst 5, 1, 0, 0, some (xI 5), [])), (153, (.lload_n 1, 1, 1, 0, none, [])), (154, (.dconst 0, 1, 0, 0, some (xD 0), [])), (155, (.invokespecial 23, 3, 31, 4, none, [])), (158, (.areturn, 1, 0, 0, none, []))])]
def xc_33 : List (Nat × List (Nat × xEn)) := [(6, [(0, (.aload_n 0, 1, 0, 0, none, [])), (1, (.getfield 9, 3, 5, 0, some (xI 0), [])), (4, (.bipush 8, 2, 0, 0, some (xI 8), []))]),
  (13, [(6, (.if_icmp .eq 12, 3, 18, 0, none, [])), (9, (.aload_n 0, 1, 0, 0, none, [])), (10, (.getfield 9, 3, 5, 0, some (xI 0), []))]),
  (19, [(13, (.bipush 9, 2, 0, 0, some (xI 9), [])), (15, (.if_icmp .ne 7, 3, 22, 0, none, [])), (18, (.iconst 1, 1, 0, 0, some (xI 1), []))]),
  (24, [(19, (.goto 4, 3, 23, 0, none, [])), (22, (.iconst 0, 1, 0, 0, some (xI 0), [])), (23, (.ireturn, 1, 0, 1, none, []))])]
def xc_34 : List (Nat × List (Nat × xEn)) := [(9, [(0, (.aload_n 0, 1, 0, 0, none, [])), (1, (.invokevirtual 29, 3, 33, 81, some (xI 0), [])), (4, (.ifCond .eq 6, 3, 10, 0, none, [])), (7, (.bipush 13, 2, 0, 0, some (xI 13), []))]),
  (16, [(9, (.ireturn, 1, 0, 0, none, [])), (10, (.aload_n 0, 1, 0, 0, none, [])), (11, (.getfield 9, 3, 5, 0, some (xI 0), [])), (14, (.bipush 10, 2, 0, 0, some (xI 10), []))]),
  (26, [(16, (.if_icmp .ne 8, 3, 24, 0, none, [])), (19, (.bipush 14, 2, 0, 0, some (xI 14), [])), (21, (.goto 5, 3, 26, 0, none, [])), (24, (.bipush 15, 2, 0, 0, some (xI 15), []))]),
  (27, [(26, (.ireturn, 1, 0, 0, none, []))])]
def xc_35 : List (Nat × List (Nat × xEn)) := [(11, [(0, (.iload_n 1, 1, 1, 0, none, [])), (1, (.aload_n 0, 1, 0, 0, none, [])), (2, (.getfield 9, 3, 5, 0, some (xI 0), [])), (5, (.if_icmp .ne 5, 3, 10, 0, none, [])), (8, (.aload_n 0, 1, 0, 0, none, [])), (9, (.areturn, 1, 0, 0, none, [])), (10, (.aload_n 0, 1, 0, 0, none, []))]),
  (25, [(11, (.getfield 9, 3, 5, 0, some (xI 0), [])), (14, (.bipush 6, 2, 0, 0, some (xI 6), [])), (16, (.if_icmp .ne 17, 3, 33, 0, none, [])), (19, (.new 10, 3, 5, 3, none, [])), (22, (.dup, 1, 0, 0, none, [])), (23, (.iload_n 1, 1, 1, 0, none, [])), (24, (.lconst 0, 1, 0, 0, some (xJ 0), []))]),
  (39, [(25, (.aload_n 0, 1, 0, 0, none, [])), (26, (.getfield 19, 3, 5, 2, some (xD 0), [])), (29, (.invokespecial 23, 3, 31, 4, none, [])), (32, (.areturn, 1, 0, 0, none, [])), (33, (.iload_n 1, 1, 1, 0, none, [])), (34, (.bipush 6, 2, 0, 0, some (xI 6), [])), (36, (.if_icmp .ne 19, 3, 55, 0, none, []))]),
  (50, [(39, (.new 10, 3, 5, 3, none, [])), (42, (.dup, 1, 0, 0, none, [])), (43, (.iload_n 1, 1, 1, 0, none, [])), (44, (.lconst 0, 1, 0, 0, some (xJ 0), [])), (45, (.aload_n 0, 1, 0, 0, none, [])), (46, (.getfield 15, 3, 5, 1, some (xJ 0), [])), (49, (.l2f, 1, 0, 0, none, []))]),
  (64, [(50, (.f2d, 1, 0, 0, none, [])), (51, (.invokespecial 23, 3, 31, 4, none, [])), (54, (.areturn, 1, 0, 0, none, [])), (55, (.iload_n 1, 1, 1, 0, none, [])), (56, (.bipush 7, 2, 0, 0, some (xI 7), [])), (58, (.if_icmp .ne 20, 3, 78, 0, none, [])), (61, (.new 10, 3, 5, 3, none, []))]),
  (75, [(64, (.dup, 1, 0, 0, none, [])), (65, (.iload_n 1, 1, 1, 0, none, [])), (66, (.lconst 0, 1, 0, 0, some (xJ 0), [])), (67, (.aload_n 0, 1, 0, 0, none, [])), (68, (.getfield 15, 3, 5, 1, some (xJ 0), [])), (71, (.l2d, 1, 0, 0, none, [])), (72, (.invokespecial 23, 3, 31, 4, none, []))]),
  (88, [(75, (.goto 16, 3, 91, 0, none, [])), (78, (.new 10, 3, 5, 3, none, [])), (81, (.dup, 1, 0, 0, none, [])), (82, (.iload_n 1, 1, 1, 0, none, [])), (83, (.aload_n 0, 1, 0, 0, none, [])), (84, (.getfield 15, 3, 5, 1, some (xJ 0), [])), (87, (.dconst 0, 1, 0, 0, some (xD 0), []))]),
  (92, [(88, (.invokespecial 23, 3, 31, 4, none, [])), (91, (.areturn, 1, 0, 0, none, []))])]
def xc_36 : List (Nat × List (Nat × xEn)) := [(13, [(0, (.aload_n 0, 1, 0, 0, none, [])), (1, (.getfield 9, 3, 5, 0, some (xI 0), [])), (4, (.bipush 6, 2, 0, 0, some (xI 6), [])), (6, (.if_icmp .eq 12, 3, 18, 0, none, [])), (9, (.aload_n 0, 1, 0, 0, none, [])), (10, (.getfield 9, 3, 5, 0, some (xI 0), []))]),
  (26, [(13, (.bipush 7, 2, 0, 0, some (xI 7), [])), (15, (.if_icmp .ne 35, 3, 50, 0, none, [])), (18, (.aload_n 0, 1, 0, 0, none, [])), (19, (.getfield 19, 3, 5, 2, some (xD 0), [])), (22, (.aload_n 1, 1, 1, 0, none, [])), (23, (.getfield 19, 3, 5, 2, some (xD 0), []))]),
  (36, [(26, (.dcmp .l, 1, 0, 0, none, [])), (27, (.ifCond .ne 5, 3, 32, 0, none, [])), (30, (.iconst 0, 1, 0, 0, some (xI 0), [])), (31, (.ireturn, 1, 0, 0, none, [])), (32, (.aload_n 0, 1, 0, 0, none, [])), (33, (.getfield 19, 3, 5, 2, some (xD 0), []))]),
  (48, [(36, (.aload_n 1, 1, 1, 0, none, [])), (37, (.getfield 19, 3, 5, 2, some (xD 0), [])), (40, (.dcmp .g, 1, 0, 0, none, [])), (41, (.ifCond .ge 7, 3, 48, 0, none, [])), (44, (.iconst (-1), 1, 0, 0, some (xI (-1)), [])), (45, (.goto 4, 3, 49, 0, none, []))]),
  (58, [(48, (.iconst 1, 1, 0, 0, some (xI 1), [])), (49, (.ireturn, 1, 0, 0, none, [])), (50, (.aload_n 0, 1, 0, 0, none, [])), (51, (.getfield 15, 3, 5, 1, some (xJ 0), [])), (54, (.aload_n 1, 1, 1, 0, none, [])), (55, (.getfield 15, 3, 5, 1, some (xJ 0), []))]),
  (62, [(58, (.invokestatic 33, 3, 147, 2, some (xI 0), [])), (61, (.ireturn, 1, 0, 0, none, []))])]
def xc_37 : List (Nat × List (Nat × xEn)) := [(10, [(0, (.aload_n 0, 1, 0, 0, none, [])), (1, (.getfield 9, 3, 5, 0, some (xI 0), [])), (4, (.bipush 6, 2, 0, 0, some (xI 6), [])), (6, (.if_icmp .ne 17, 3, 23, 0, none, [])), (9, (.aload_n 0, 1, 0, 0, none, []))]),
  (22, [(10, (.getfield 19, 3, 5, 2, some (xD 0), [])), (13, (.bipush 23, 2, 0, 0, some (xI 23), [])), (15, (.bipush 127, 2, 0, 0, some (xI 127), [])), (17, (.bipush 31, 2, 0, 0, some (xI 31), [])), (19, (.invokestatic 39, 3, 38, 4, some (xJ 0), []))]),
  (32, [(22, (.lreturn, 1, 0, 0, none, [])), (23, (.aload_n 0, 1, 0, 0, none, [])), (24, (.getfield 9, 3, 5, 0, some (xI 0), [])), (27, (.bipush 7, 2, 0, 0, some (xI 7), [])), (29, (.if_icmp .ne 20, 3, 49, 0, none, []))]),
  (43, [(32, (.aload_n 0, 1, 0, 0, none, [])), (33, (.getfield 19, 3, 5, 2, some (xD 0), [])), (36, (.bipush 52, 2, 0, 0, some (xI 52), [])), (38, (.sipush 1023, 3, 0, 0, some (xI 1023), [])), (41, (.bipush 63, 2, 0, 0, some (xI 63), []))]),
  (54, [(43, (.invokestatic 39, 3, 38, 4, some (xJ 0), [])), (46, (.goto 7, 3, 53, 0, none, [])), (49, (.aload_n 0, 1, 0, 0, none, [])), (50, (.getfield 15, 3, 5, 1, some (xJ 0), [])), (53, (.lreturn, 1, 0, 0, none, []))])]
def xc_38 : List (Nat × List (Nat × xEn)) := [(11, [(0, (.dload_n 0, 1, 0, 0, none, [])), (1, (.dconst 0, 1, 0, 0, some (xD 0), [])), (2, (.dcmp .l, 1, 0, 0, none, [])), (3, (.ifCond .ne 5, 3, 8, 0, none, [])), (6, (.lconst 0, 1, 0, 0, some (xJ 0), [])), (7, (.lreturn, 1, 0, 0, none, [])), (8, (.dload_n 0, 1, 0, 0, none, [])), (9, (.dconst 0, 1, 0, 0, some (xD 0), [])), (10, (.dcmp .g, 1, 0, 0, none, []))]),
  (26, [(11, (.ifCond .ge 8, 3, 19, 0, none, [])), (14, (.dload_n 0, 1, 0, 0, none, [])), (15, (.dneg, 1, 0, 0, none, [])), (16, (.goto 4, 3, 20, 0, none, [])), (19, (.dload_n 0, 1, 0, 0, none, [])), (20, (.dstore 5, 2, 5, 0, none, [])), (22, (.iload_n 3, 1, 3, 0, none, [])), (23, (.istore 7, 2, 7, 0, none, [])), (25, (.iconst 0, 1, 0, 0, some (xI 0), []))]),
  (47, [(26, (.istore 8, 2, 8, 0, none, [])), (28, (.iload 8, 2, 8, 0, none, [true, false, true, false, true, true, false, true, true, false, false, false])), (30, (.sipush 1100, 3, 0, 0, some (xI 1100), [])), (33, (.if_icmp .ge 29, 3, 62, 0, none, [])), (36, (.dload 5, 2, 5, 0, none, [])), (38, (.ldc2_w 43, 3, 0, 0, some (xD 4611686018427387904), [])), (41, (.dcmp .l, 1, 0, 0, none, [])), (42, (.ifCond .lt 20, 3, 62, 0, none, [])), (45, (.dload 5, 2, 5, 0, none, []))]),
  (67, [(47, (.ldc2_w 43, 3, 0, 0, some (xD 4611686018427387904), [])), (50, (.ddiv, 1, 0, 0, none, [])), (51, (.dstore 5, 2, 5, 0, none, [])), (53, (.iinc 7 1, 3, 7, 0, some (xI (1)), [])), (56, (.iinc 8 1, 3, 8, 0, some (xI (1)), [])), (59, (.goto (-31), 3, 28, 0, none, [])), (62, (.iconst 0, 1, 0, 0, some (xI 0), [])), (63, (.istore 8, 2, 8, 0, none, [])), (65, (.iload 8, 2, 8, 0, none, [true, false, true, false, true, true, false, true, true, false, false, false]))]),
  (86, [(67, (.sipush 1100, 3, 0, 0, some (xI 1100), [])), (70, (.if_icmp .ge 27, 3, 97, 0, none, [])), (73, (.dload 5, 2, 5, 0, none, [])), (75, (.dconst 1, 1, 0, 0, some (xD 4607182418800017408), [])), (76, (.dcmp .g, 1, 0, 0, none, [])), (77, (.ifCond .ge 20, 3, 97, 0, none, [])), (80, (.dload 5, 2, 5, 0, none, [])), (82, (.ldc2_w 43, 3, 0, 0, some (xD 4611686018427387904), [])), (85, (.dmul, 1, 0, 0, none, []))]),
  (103, [(86, (.dstore 5, 2, 5, 0, none, [])), (88, (.iinc 7 (-1), 3, 7, 0, some (xI (-1)), [])), (91, (.iinc 8 1, 3, 8, 0, some (xI (1)), [])), (94, (.goto (-29), 3, 65, 0, none, [])), (97, (.dload 5, 2, 5, 0, none, [])), (99, (.dconst 1, 1, 0, 0, some (xD 4607182418800017408), [])), (100, (.dsub, 1, 0, 0, none, [])), (101, (.lconst 1, 1, 0, 0, some (xJ 1), [])), (102, (.iload_n 2, 1, 2, 0, none, []))]),
  (114, [(103, (.lshl, 1, 0, 0, none, [])), (104, (.l2d, 1, 0, 0, none, [])), (105, (.dmul, 1, 0, 0, none, [])), (106, (.d2l, 1, 0, 0, none, [])), (107, (.lstore 8, 2, 8, 0, none, [])), (109, (.iload 7, 2, 7, 0, none, [])), (111, (.i2l, 1, 0, 0, none, [])), (112, (.iload_n 2, 1, 2, 0, none, [])), (113, (.lshl, 1, 0, 0, none, []))]),
  (130, [(114, (.lload 8, 2, 8, 0, none, [])), (116, (.lor, 1, 0, 0, none, [])), (117, (.lstore 10, 2, 10, 0, none, [])), (119, (.dload_n 0, 1, 0, 0, none, [])), (120, (.dconst 0, 1, 0, 0, some (xD 0), [])), (121, (.dcmp .g, 1, 0, 0, none, [])), (122, (.ifCond .ge 15, 3, 137, 0, none, [])), (125, (.lload 10, 2, 10, 0, none, [])), (127, (.ldc2_w 45, 3, 0, 0, some (xJ (-1)), []))]),
  (140, [(130, (.iload 4, 2, 4, 0, none, [])), (132, (.lshl, 1, 0, 0, none, [])), (133, (.lor, 1, 0, 0, none, [])), (134, (.goto 5, 3, 139, 0, none, [])), (137, (.lload 10, 2, 10, 0, none, [])), (139, (.lreturn, 1, 0, 0, none, []))])]
def xc_39 : List (Nat × List (Nat × xEn)) := [(16, [(0, (.aload_n 0, 1, 0, 0, none, [])), (1, (.invokespecial 1, 3, 1000, 1, none, [])), (4, (.aload_n 0, 1, 0, 0, none, [])), (5, (.new 7, 3, 0, 1, none, [])), (8, (.dup, 1, 0, 0, none, [])), (9, (.invokespecial 9, 3, 0, 1, none, [])), (12, (.putfield 10, 3, 6, 0, some (xA none), [])), (15, (.aload_n 0, 1, 0, 0, none, []))]),
  (30, [(16, (.iconst 2, 1, 0, 0, some (xI 2), [])), (17, (.anewarray 7, 3, 6, 0, none, [])), (20, (.putfield 16, 3, 6, 1, some (xA none), [])), (23, (.aload_n 0, 1, 0, 0, none, [])), (24, (.new 20, 3, 5, 3, none, [])), (27, (.dup, 1, 0, 0, none, [])), (28, (.iconst 4, 1, 0, 0, some (xI 4), [])), (29, (.lconst 0, 1, 0, 0, some (xJ 0), []))]),
  (45, [(30, (.dconst 0, 1, 0, 0, some (xD 0), [])), (31, (.invokespecial 22, 3, 31, 4, none, [])), (34, (.putfield 25, 3, 6, 2, some (xA none), [])), (37, (.aload_n 0, 1, 0, 0, none, [])), (38, (.new 20, 3, 5, 3, none, [])), (41, (.dup, 1, 0, 0, none, [])), (42, (.bipush 11, 2, 0, 0, some (xI 11), [])), (44, (.lconst 0, 1, 0, 0, some (xJ 0), []))]),
  (61, [(45, (.dconst 0, 1, 0, 0, some (xD 0), [])), (46, (.invokespecial 22, 3, 31, 4, none, [])), (49, (.putfield 29, 3, 6, 3, some (xA none), [])), (52, (.aload_n 0, 1, 0, 0, none, [])), (53, (.aconst_null, 1, 0, 0, none, [])), (54, (.putfield 32, 3, 6, 4, some (xA none), [])), (57, (.aload_n 0, 1, 0, 0, none, [])), (58, (.new 36, 3, 1, 3, none, []))]),
  (79, [(61, (.dup, 1, 0, 0, none, [])), (62, (.invokespecial 38, 3, 5, 1, none, [])), (65, (.putfield 39, 3, 6, 5, some (xA none), [])), (68, (.aload_n 0, 1, 0, 0, none, [])), (69, (.new 36, 3, 1, 3, none, [])), (72, (.dup, 1, 0, 0, none, [])), (73, (.invokespecial 38, 3, 5, 1, none, [])), (76, (.putfield 43, 3, 6, 6, some (xA none), []))]),
  (95, [(79, (.aload_n 0, 1, 0, 0, none, [])), (80, (.new 46, 3, 2, 3, none, [])), (83, (.dup, 1, 0, 0, none, [])), (84, (.invokespecial 48, 3, 11, 1, none, [])), (87, (.putfield 49, 3, 6, 7, some (xA none), [])), (90, (.aload_n 0, 1, 0, 0, none, [])), (91, (.new 46, 3, 2, 3, none, [])), (94, (.dup, 1, 0, 0, none, []))]),
  (111, [(95, (.invokespecial 48, 3, 11, 1, none, [])), (98, (.putfield 53, 3, 6, 8, some (xA none), [])), (101, (.aload_n 0, 1, 0, 0, none, [])), (102, (.bipush 60, 2, 0, 0, some (xI 60), [])), (104, (.newarray .int, 2, 0, 0, none, [])), (106, (.putfield 56, 3, 6, 9, some (xA none), [])), (109, (.aload_n 0, 1, 0, 0, none, [])), (110, (.iconst 0, 1, 0, 0, some (xI 0), []))]),
  (128, [(111, (.putfield 60, 3, 6, 10, some (xI 0), [])), (114, (.aload_n 0, 1, 0, 0, none, [])), (115, (.new 64, 3, 4, 1, none, [])), (118, (.dup, 1, 0, 0, none, [])), (119, (.invokespecial 66, 3, 27, 1, none, [])), (122, (.putfield 67, 3, 6, 11, some (xA none), [])), (125, (.aload_n 0, 1, 0, 0, none, [])), (126, (.bipush (-6), 2, 0, 0, some (xI (-6)), []))]),
  (132, [(128, (.putfield 71, 3, 6, 12, some (xI 0), [])), (131, (.return_, 1, 0, 0, none, []))])]
def xc_40 : List (Nat × List (Nat × xEn)) := [(9, [(0, (.iload_n 1, 1, 1, 0, none, [])), (1, (.invokestatic 74, 3, 66, 1, some (xI 0), [])), (4, (.ifCond .ne 5, 3, 9, 0, none, [])), (7, (.iconst (-1), 1, 0, 0, some (xI (-1)), [])), (8, (.ireturn, 1, 0, 0, none, []))]),
  (19, [(9, (.iload_n 2, 1, 2, 0, none, [])), (10, (.iload_n 3, 1, 3, 0, none, [])), (11, (.invokestatic 78, 3, 70, 2, some (xI 0), [])), (14, (.ifCond .ne 6, 3, 20, 0, none, [])), (17, (.bipush (-2), 2, 0, 0, some (xI (-2)), []))]),
  (27, [(19, (.ireturn, 1, 0, 0, none, [])), (20, (.iload_n 2, 1, 2, 0, none, [])), (21, (.bipush 13, 2, 0, 0, some (xI 13), [])), (23, (.if_icmp .ne 15, 3, 38, 0, none, [])), (26, (.aload_n 0, 1, 0, 0, none, []))]),
  (38, [(27, (.getfield 60, 3, 6, 10, some (xI 0), [])), (30, (.bipush 60, 2, 0, 0, some (xI 60), [])), (32, (.if_icmp .lt 6, 3, 38, 0, none, [])), (35, (.bipush (-4), 2, 0, 0, some (xI (-4)), [])), (37, (.ireturn, 1, 0, 0, none, []))]),
  (45, [(38, (.aload_n 0, 1, 0, 0, none, [])), (39, (.getfield 10, 3, 6, 0, some (xA none), [])), (42, (.iload_n 1, 1, 1, 0, none, [])), (43, (.aload_n 0, 1, 0, 0, none, [])), (44, (.iload_n 2, 1, 2, 0, none, []))]),
  (54, [(45, (.iload_n 3, 1, 3, 0, none, [])), (46, (.invokevirtual 82, 3, 73, 99, some (xA none), [])), (49, (.invokevirtual 86, 3, 2, 3, none, [])), (52, (.iconst 0, 1, 0, 0, some (xI 0), [])), (53, (.ireturn, 1, 0, 0, none, []))])]
def xc_41 : List (Nat × List (Nat × xEn)) := [(15, [(0, (.iload_n 1, 1, 1, 0, none, [])), (1, (.invokestatic 74, 3, 66, 1, some (xI 0), [])), (4, (.ifCond .eq 10, 3, 14, 0, none, [])), (7, (.iload_n 2, 1, 2, 0, none, [])), (8, (.invokestatic 74, 3, 66, 1, some (xI 0), [])), (11, (.ifCond .ne 5, 3, 16, 0, none, [])), (14, (.iconst (-1), 1, 0, 0, some (xI (-1)), []))]),
  (27, [(15, (.ireturn, 1, 0, 0, none, [])), (16, (.iload_n 3, 1, 3, 0, none, [])), (17, (.ifCond .eq 11, 3, 28, 0, none, [])), (20, (.iload_n 3, 1, 3, 0, none, [])), (21, (.iconst 1, 1, 0, 0, some (xI 1), [])), (22, (.if_icmp .eq 6, 3, 28, 0, none, [])), (25, (.bipush (-2), 2, 0, 0, some (xI (-2)), []))]),
  (39, [(27, (.ireturn, 1, 0, 0, none, [])), (28, (.aload_n 0, 1, 0, 0, none, [])), (29, (.getfield 10, 3, 6, 0, some (xA none), [])), (32, (.iload_n 1, 1, 1, 0, none, [])), (33, (.invokevirtual 90, 3, 1, 2, some (xA none), [])), (36, (.astore 4, 2, 4, 0, none, [])), (38, (.iload_n 3, 1, 3, 0, none, []))]),
  (53, [(39, (.ifCond .ne 15, 3, 54, 0, none, [])), (42, (.aload_n 0, 1, 0, 0, none, [])), (43, (.getfield 10, 3, 6, 0, some (xA none), [])), (46, (.iload_n 2, 1, 2, 0, none, [])), (47, (.aload 4, 2, 4, 0, none, [])), (49, (.invokevirtual 86, 3, 2, 3, none, [])), (52, (.iconst 0, 1, 0, 0, some (xI 0), []))]),
  (69, [(53, (.ireturn, 1, 0, 0, none, [])), (54, (.aload 4, 2, 4, 0, none, [])), (56, (.instanceof 94, 3, 3, 5, none, [])), (59, (.ifCond .eq 29, 3, 88, 0, none, [])), (62, (.aload 4, 2, 4, 0, none, [])), (64, (.checkcast 94, 3, 3, 5, none, [])), (67, (.astore 5, 2, 5, 0, none, []))]),
  (82, [(69, (.aload_n 0, 1, 0, 0, none, [])), (70, (.getfield 10, 3, 6, 0, some (xA none), [])), (73, (.iload_n 2, 1, 2, 0, none, [])), (74, (.aload 5, 2, 5, 0, none, [])), (76, (.iconst 0, 1, 0, 0, some (xI 0), [])), (77, (.aload 5, 2, 5, 0, none, [])), (79, (.invokevirtual 96, 3, 19, 49, some (xI 0), []))]),
  (94, [(82, (.invokevirtual 100, 3, 24, 51, some (xA none), [])), (85, (.invokevirtual 86, 3, 2, 3, none, [])), (88, (.aload 4, 2, 4, 0, none, [])), (90, (.invokestatic 104, 3, 76, 1, some (xI 0), [])), (93, (.ireturn, 1, 0, 0, none, []))])]
def xc_42 : List (Nat × List (Nat × xEn)) := [(11, [(0, (.iload_n 1, 1, 1, 0, none, [])), (1, (.invokestatic 74, 3, 66, 1, some (xI 0), [])), (4, (.ifCond .eq 10, 3, 14, 0, none, [])), (7, (.iload_n 2, 1, 2, 0, none, [])), (8, (.invokestatic 74, 3, 66, 1, some (xI 0), []))]),
  (20, [(11, (.ifCond .ne 5, 3, 16, 0, none, [])), (14, (.iconst (-1), 1, 0, 0, some (xI (-1)), [])), (15, (.ireturn, 1, 0, 0, none, [])), (16, (.aload_n 0, 1, 0, 0, none, [])), (17, (.getfield 10, 3, 6, 0, some (xA none), []))]),
  (29, [(20, (.iload_n 1, 1, 1, 0, none, [])), (21, (.invokevirtual 90, 3, 1, 2, some (xA none), [])), (24, (.astore_n 3, 1, 3, 0, none, [])), (25, (.aload_n 3, 1, 3, 0, none, [])), (26, (.instanceof 94, 3, 3, 5, none, []))]),
  (38, [(29, (.ifCond .eq 19, 3, 48, 0, none, [])), (32, (.aload_n 3, 1, 3, 0, none, [])), (33, (.aload_n 0, 1, 0, 0, none, [])), (34, (.getfield 10, 3, 6, 0, some (xA none), [])), (37, (.iload_n 2, 1, 2, 0, none, []))]),
  (49, [(38, (.invokevirtual 90, 3, 1, 2, some (xA none), [])), (41, (.if_acmp .ne 7, 3, 48, 0, none, [])), (44, (.iconst 1, 1, 0, 0, some (xI 1), [])), (45, (.goto 4, 3, 49, 0, none, [])), (48, (.iconst 0, 1, 0, 0, some (xI 0), []))]),
  (50, [(49, (.ireturn, 1, 0, 0, none, []))])]
def xc_43 : List (Nat × List (Nat × xEn)) := [(9, [(0, (.iload_n 1, 1, 1, 0, none, [])), (1, (.invokestatic 74, 3, 66, 1, some (xI 0), [])), (4, (.ifCond .ne 5, 3, 9, 0, none, [])), (7, (.iconst (-1), 1, 0, 0, some (xI (-1)), [])), (8, (.ireturn, 1, 0, 0, none, []))]),
  (18, [(9, (.aload_n 0, 1, 0, 0, none, [])), (10, (.getfield 10, 3, 6, 0, some (xA none), [])), (13, (.iload_n 1, 1, 1, 0, none, [])), (14, (.invokevirtual 90, 3, 1, 2, some (xA none), [])), (17, (.astore_n 2, 1, 2, 0, none, []))]),
  (28, [(18, (.aload_n 0, 1, 0, 0, none, [])), (19, (.getfield 67, 3, 6, 11, some (xA none), [])), (22, (.bipush 18, 2, 0, 0, some (xI 18), [])), (24, (.aload_n 2, 1, 2, 0, none, [])), (25, (.invokestatic 104, 3, 76, 1, some (xI 0), []))]),
  (39, [(28, (.invokevirtual 108, 3, 28, 67, some (xI 0), [])), (31, (.istore_n 3, 1, 3, 0, none, [])), (32, (.aload_n 2, 1, 2, 0, none, [])), (33, (.instanceof 94, 3, 3, 5, none, [])), (36, (.ifCond .eq 17, 3, 53, 0, none, []))]),
  (50, [(39, (.aload_n 2, 1, 2, 0, none, [])), (40, (.checkcast 94, 3, 3, 5, none, [])), (43, (.astore 4, 2, 4, 0, none, [])), (45, (.aload 4, 2, 4, 0, none, [])), (47, (.invokevirtual 96, 3, 19, 49, some (xI 0), []))]),
  (58, [(50, (.goto 7, 3, 57, 0, none, [])), (53, (.bipush (-10), 2, 0, 0, some (xI (-10)), [])), (55, (.iload_n 3, 1, 3, 0, none, [])), (56, (.isub, 1, 0, 0, none, [])), (57, (.ireturn, 1, 0, 0, none, []))])]
def xc_44 : List (Nat × List (Nat × xEn)) := [(8, [(0, (.iload_n 1, 1, 1, 0, none, [])), (1, (.invokestatic 74, 3, 66, 1, some (xI 0), [])), (4, (.ifCond .ne 5, 3, 9, 0, none, [])), (7, (.iconst (-1), 1, 0, 0, some (xI (-1)), []))]),
  (16, [(8, (.ireturn, 1, 0, 0, none, [])), (9, (.iload_n 3, 1, 3, 0, none, [])), (10, (.invokestatic 112, 3, 67, 1, some (xI 0), [])), (13, (.ifCond .eq 13, 3, 26, 0, none, []))]),
  (20, [(16, (.aload_n 0, 1, 0, 0, none, [])), (17, (.iload_n 1, 1, 1, 0, none, [])), (18, (.iload_n 2, 1, 2, 0, none, [])), (19, (.iload_n 3, 1, 3, 0, none, []))]),
  (29, [(20, (.invokevirtual 115, 3, 78, 100, some (xI 0), [])), (23, (.goto 5, 3, 28, 0, none, [])), (26, (.bipush (-2), 2, 0, 0, some (xI (-2)), [])), (28, (.ireturn, 1, 0, 0, none, []))])]
def xc_45 : List (Nat × List (Nat × xEn)) := [(4, [(0, (.aload_n 0, 1, 0, 0, none, [])), (1, (.getfield 25, 3, 6, 2, some (xA none), []))]),
  (8, [(4, (.invokevirtual 119, 3, 37, 81, some (xJ 0), [])), (7, (.lreturn, 1, 0, 0, none, []))])]
def xc_46 : List (Nat × List (Nat × xEn)) := [(8, [(0, (.iload_n 1, 1, 1, 0, none, [])), (1, (.invokestatic 74, 3, 66, 1, some (xI 0), [])), (4, (.ifCond .ne 5, 3, 9, 0, none, [])), (7, (.iconst (-1), 1, 0, 0, some (xI (-1)), []))]),
  (16, [(8, (.ireturn, 1, 0, 0, none, [])), (9, (.iload_n 3, 1, 3, 0, none, [])), (10, (.invokestatic 112, 3, 67, 1, some (xI 0), [])), (13, (.ifCond .eq 18, 3, 31, 0, none, []))]),
  (20, [(16, (.aload_n 0, 1, 0, 0, none, [])), (17, (.iload_n 1, 1, 1, 0, none, [])), (18, (.iload_n 2, 1, 2, 0, none, [])), (19, (.iload_n 3, 1, 3, 0, none, []))]),
  (31, [(20, (.lload 4, 2, 4, 0, none, [])), (22, (.invokestatic 123, 3, 32, 2, some (xA none), [])), (25, (.invokevirtual 127, 3, 79, 100, some (xI 0), [])), (28, (.goto 5, 3, 33, 0, none, []))]),
  (34, [(31, (.bipush (-2), 2, 0, 0, some (xI (-2)), [])), (33, (.ireturn, 1, 0, 0, none, []))])]
def xc_47 : List (Nat × List (Nat × xEn)) := [(7, [(0, (.iload_n 1, 1, 1, 0, none, [])), (1, (.invokestatic 74, 3, 66, 1, some (xI 0), [])), (4, (.ifCond .eq 12, 3, 16, 0, none, []))]),
  (10, [(7, (.aload_n 0, 1, 0, 0, none, [])), (8, (.iload_n 1, 1, 1, 0, none, [])), (9, (.iload_n 2, 1, 2, 0, none, []))]),
  (17, [(10, (.invokevirtual 131, 3, 80, 99, some (xI 0), [])), (13, (.goto 4, 3, 17, 0, none, [])), (16, (.iconst (-1), 1, 0, 0, some (xI (-1)), []))]),
  (18, [(17, (.ireturn, 1, 0, 0, none, []))])]
def xc_48 : List (Nat × List (Nat × xEn)) := [(7, [(0, (.iload_n 1, 1, 1, 0, none, [])), (1, (.invokestatic 74, 3, 66, 1, some (xI 0), [])), (4, (.ifCond .eq 12, 3, 16, 0, none, []))]),
  (10, [(7, (.aload_n 0, 1, 0, 0, none, [])), (8, (.iload_n 1, 1, 1, 0, none, [])), (9, (.iload_n 2, 1, 2, 0, none, []))]),
  (17, [(10, (.invokevirtual 134, 3, 81, 99, some (xI 0), [])), (13, (.goto 4, 3, 17, 0, none, [])), (16, (.iconst (-1), 1, 0, 0, some (xI (-1)), []))]),
  (18, [(17, (.ireturn, 1, 0, 0, none, []))])]
def xc_49 : List (Nat × List (Nat × xEn)) := [(16, [(0, (.iload_n 1, 1, 1, 0, none, [])), (1, (.ifCond .lt 22, 3, 23, 0, none, [])), (4, (.iload_n 1, 1, 1, 0, none, [])), (5, (.bipush 11, 2, 0, 0, some (xI 11), [])), (7, (.if_icmp .gt 16, 3, 23, 0, none, [])), (10, (.iload_n 1, 1, 1, 0, none, [])), (11, (.bipush 10, 2, 0, 0, some (xI 10), [])), (13, (.if_icmp .ne 13, 3, 26, 0, none, []))]),
  (32, [(16, (.lload_n 2, 1, 2, 0, none, [])), (17, (.invokestatic 137, 3, 68, 1, some (xI 0), [])), (20, (.ifCond .ne 6, 3, 26, 0, none, [])), (23, (.bipush (-2), 2, 0, 0, some (xI (-2)), [])), (25, (.ireturn, 1, 0, 0, none, [])), (26, (.iload_n 1, 1, 1, 0, none, [])), (27, (.bipush 8, 2, 0, 0, some (xI 8), [])), (29, (.if_icmp .eq 9, 3, 38, 0, none, []))]),
  (47, [(32, (.iload_n 1, 1, 1, 0, none, [])), (33, (.bipush 9, 2, 0, 0, some (xI 9), [])), (35, (.if_icmp .ne 7, 3, 42, 0, none, [])), (38, (.iconst 1, 1, 0, 0, some (xI 1), [])), (39, (.goto 4, 3, 43, 0, none, [])), (42, (.iconst 0, 1, 0, 0, some (xI 0), [])), (43, (.istore 4, 2, 4, 0, none, [])), (45, (.iload 4, 2, 4, 0, none, []))]),
  (64, [(47, (.ifCond .eq 15, 3, 62, 0, none, [])), (50, (.aload_n 0, 1, 0, 0, none, [])), (51, (.getfield 60, 3, 6, 10, some (xI 0), [])), (54, (.bipush 60, 2, 0, 0, some (xI 60), [])), (56, (.if_icmp .lt 6, 3, 62, 0, none, [])), (59, (.bipush (-4), 2, 0, 0, some (xI (-4)), [])), (61, (.ireturn, 1, 0, 0, none, [])), (62, (.iload 4, 2, 4, 0, none, []))]),
  (78, [(64, (.ifCond .eq 17, 3, 81, 0, none, [])), (67, (.aload_n 0, 1, 0, 0, none, [])), (68, (.aload_n 0, 1, 0, 0, none, [])), (69, (.iload_n 1, 1, 1, 0, none, [])), (70, (.lload_n 2, 1, 2, 0, none, [])), (71, (.l2i, 1, 0, 0, none, [])), (72, (.invokevirtual 141, 3, 74, 99, some (xA none), [])), (75, (.putfield 29, 3, 6, 3, some (xA none), []))]),
  (94, [(78, (.goto 46, 3, 124, 0, none, [])), (81, (.iload_n 1, 1, 1, 0, none, [])), (82, (.invokestatic 112, 3, 67, 1, some (xI 0), [])), (85, (.ifCond .eq 15, 3, 100, 0, none, [])), (88, (.aload_n 0, 1, 0, 0, none, [])), (89, (.iload_n 1, 1, 1, 0, none, [])), (90, (.lload_n 2, 1, 2, 0, none, [])), (91, (.invokestatic 123, 3, 32, 2, some (xA none), []))]),
  (109, [(94, (.putfield 29, 3, 6, 3, some (xA none), [])), (97, (.goto 27, 3, 124, 0, none, [])), (100, (.aload_n 0, 1, 0, 0, none, [])), (101, (.new 20, 3, 5, 3, none, [])), (104, (.dup, 1, 0, 0, none, [])), (105, (.iload_n 1, 1, 1, 0, none, [])), (106, (.iload_n 1, 1, 1, 0, none, [])), (107, (.bipush 10, 2, 0, 0, some (xI 10), []))]),
  (125, [(109, (.if_icmp .ne 7, 3, 116, 0, none, [])), (112, (.lload_n 2, 1, 2, 0, none, [])), (113, (.goto 4, 3, 117, 0, none, [])), (116, (.lconst 0, 1, 0, 0, some (xJ 0), [])), (117, (.dconst 0, 1, 0, 0, some (xD 0), [])), (118, (.invokespecial 22, 3, 31, 4, none, [])), (121, (.putfield 29, 3, 6, 3, some (xA none), [])), (124, (.iconst 0, 1, 0, 0, some (xI 0), []))]),
  (126, [(125, (.ireturn, 1, 0, 0, none, []))])]
def xc_50 : List (Nat × List (Nat × xEn)) := [(36, [(0, (.iload_n 1, 1, 1, 0, none, [])), (1, (.tableswitch 88 0 2 #[27, 36, 66], 27, 89, 0, none, [])), (28, (.aload_n 0, 1, 0, 0, none, [])), (29, (.getfield 29, 3, 6, 3, some (xA none), [])), (32, (.getfield 145, 3, 5, 0, some (xI 0), [])), (35, (.i2l, 1, 0, 0, none, []))]),
  (48, [(36, (.lreturn, 1, 0, 0, none, [])), (37, (.aload_n 0, 1, 0, 0, none, [])), (38, (.getfield 29, 3, 6, 3, some (xA none), [])), (41, (.invokevirtual 148, 3, 33, 81, some (xI 0), [])), (44, (.ifCond .eq 15, 3, 59, 0, none, [])), (47, (.aload_n 0, 1, 0, 0, none, []))]),
  (60, [(48, (.aload_n 0, 1, 0, 0, none, [])), (49, (.getfield 29, 3, 6, 3, some (xA none), [])), (52, (.invokevirtual 152, 3, 75, 98, some (xI 0), [])), (55, (.i2l, 1, 0, 0, none, [])), (56, (.goto 10, 3, 66, 0, none, [])), (59, (.aload_n 0, 1, 0, 0, none, []))]),
  (74, [(60, (.getfield 29, 3, 6, 3, some (xA none), [])), (63, (.invokevirtual 119, 3, 37, 81, some (xJ 0), [])), (66, (.lreturn, 1, 0, 0, none, [])), (67, (.aload_n 0, 1, 0, 0, none, [])), (68, (.getfield 29, 3, 6, 3, some (xA none), [])), (71, (.invokevirtual 148, 3, 33, 81, some (xI 0), []))]),
  (88, [(74, (.ifCond .eq 13, 3, 87, 0, none, [])), (77, (.aload_n 0, 1, 0, 0, none, [])), (78, (.getfield 29, 3, 6, 3, some (xA none), [])), (81, (.getfield 156, 3, 5, 1, some (xJ 0), [])), (84, (.goto 4, 3, 88, 0, none, [])), (87, (.lconst 0, 1, 0, 0, some (xJ 0), []))]),
  (93, [(88, (.lreturn, 1, 0, 0, none, [])), (89, (.ldc2_w 160, 3, 0, 0, some (xJ (-2)), [])), (92, (.lreturn, 1, 0, 0, none, []))])]
def xc_51 : List (Nat × List (Nat × xEn)) := [(13, [(0, (.aload_n 0, 1, 0, 0, none, [])), (1, (.getfield 29, 3, 6, 3, some (xA none), [])), (4, (.invokevirtual 148, 3, 33, 81, some (xI 0), [])), (7, (.ifCond .ne 6, 3, 13, 0, none, [])), (10, (.bipush (-3), 2, 0, 0, some (xI (-3)), [])), (12, (.ireturn, 1, 0, 0, none, []))]),
  (23, [(13, (.aload_n 0, 1, 0, 0, none, [])), (14, (.getfield 29, 3, 6, 3, some (xA none), [])), (17, (.getfield 156, 3, 5, 1, some (xJ 0), [])), (20, (.l2i, 1, 0, 0, none, [])), (21, (.iconst 1, 1, 0, 0, some (xI 1), [])), (22, (.isub, 1, 0, 0, none, []))]),
  (33, [(23, (.istore_n 2, 1, 2, 0, none, [])), (24, (.iload_n 2, 1, 2, 0, none, [])), (25, (.ifCond .lt 22, 3, 47, 0, none, [])), (28, (.iload_n 2, 1, 2, 0, none, [])), (29, (.aload_n 0, 1, 0, 0, none, [])), (30, (.getfield 56, 3, 6, 9, some (xA none), []))]),
  (43, [(33, (.arraylength, 1, 0, 0, none, [])), (34, (.if_icmp .ge 13, 3, 47, 0, none, [])), (37, (.aload_n 0, 1, 0, 0, none, [])), (38, (.getfield 56, 3, 6, 9, some (xA none), [])), (41, (.iload_n 2, 1, 2, 0, none, [])), (42, (.dup2, 1, 0, 0, none, []))]),
  (49, [(43, (.iaload, 1, 0, 0, none, [])), (44, (.iload_n 1, 1, 1, 0, none, [])), (45, (.iadd, 1, 0, 0, none, [])), (46, (.iastore, 1, 0, 0, none, [])), (47, (.aload_n 0, 1, 0, 0, none, [])), (48, (.aload_n 0, 1, 0, 0, none, []))]),
  (56, [(49, (.getfield 29, 3, 6, 3, some (xA none), [])), (52, (.invokevirtual 152, 3, 75, 98, some (xI 0), [])), (55, (.ireturn, 1, 0, 0, none, []))])]
def xc_52 : List (Nat × List (Nat × xEn)) := [(17, [(0, (.iload_n 1, 1, 1, 0, none, [])), (1, (.invokestatic 74, 3, 66, 1, some (xI 0), [])), (4, (.ifCond .ne 5, 3, 9, 0, none, [])), (7, (.iconst (-1), 1, 0, 0, some (xI (-1)), [])), (8, (.ireturn, 1, 0, 0, none, [])), (9, (.aload_n 0, 1, 0, 0, none, [])), (10, (.getfield 10, 3, 6, 0, some (xA none), [])), (13, (.iload_n 1, 1, 1, 0, none, [])), (14, (.invokevirtual 90, 3, 1, 2, some (xA none), []))]),
  (39, [(17, (.astore 4, 2, 4, 0, none, [])), (19, (.aload 4, 2, 4, 0, none, [])), (21, (.instanceof 94, 3, 3, 5, none, [])), (24, (.ifCond .eq 13, 3, 37, 0, none, [])), (27, (.aload 4, 2, 4, 0, none, [])), (29, (.checkcast 94, 3, 3, 5, none, [])), (32, (.astore 5, 2, 5, 0, none, [])), (34, (.goto 9, 3, 43, 0, none, [])), (37, (.aload 4, 2, 4, 0, none, []))]),
  (55, [(39, (.invokestatic 104, 3, 76, 1, some (xI 0), [])), (42, (.ireturn, 1, 0, 0, none, [])), (43, (.iload_n 2, 1, 2, 0, none, [])), (44, (.ifCond .lt 19, 3, 63, 0, none, [])), (47, (.iload_n 3, 1, 3, 0, none, [])), (48, (.iconst 1, 1, 0, 0, some (xI 1), [])), (49, (.if_icmp .lt 14, 3, 63, 0, none, [])), (52, (.iload_n 3, 1, 3, 0, none, [])), (53, (.aload 5, 2, 5, 0, none, []))]),
  (71, [(55, (.invokevirtual 96, 3, 19, 49, some (xI 0), [])), (58, (.iload_n 2, 1, 2, 0, none, [])), (59, (.isub, 1, 0, 0, none, [])), (60, (.if_icmp .le 5, 3, 65, 0, none, [])), (63, (.iconst 4, 1, 0, 0, some (xI 4), [])), (64, (.ireturn, 1, 0, 0, none, [])), (65, (.new 94, 3, 3, 3, none, [])), (68, (.dup, 1, 0, 0, none, [])), (69, (.aload 5, 2, 5, 0, none, []))]),
  (90, [(71, (.getfield 162, 3, 3, 0, some (xI 0), [])), (74, (.aload 5, 2, 5, 0, none, [])), (76, (.invokevirtual 96, 3, 19, 49, some (xI 0), [])), (79, (.iload_n 3, 1, 3, 0, none, [])), (80, (.isub, 1, 0, 0, none, [])), (81, (.invokespecial 165, 3, 17, 3, none, [])), (84, (.astore 6, 2, 6, 0, none, [])), (86, (.aload 6, 2, 6, 0, none, [])), (88, (.aload 5, 2, 5, 0, none, []))]),
  (103, [(90, (.iconst 0, 1, 0, 0, some (xI 0), [])), (91, (.iconst 0, 1, 0, 0, some (xI 0), [])), (92, (.iload_n 2, 1, 2, 0, none, [])), (93, (.invokevirtual 168, 3, 23, 53, none, [])), (96, (.aload 6, 2, 6, 0, none, [])), (98, (.aload 5, 2, 5, 0, none, [])), (100, (.iload_n 2, 1, 2, 0, none, [])), (101, (.iload_n 3, 1, 3, 0, none, [])), (102, (.iadd, 1, 0, 0, none, []))]),
  (117, [(103, (.iload_n 2, 1, 2, 0, none, [])), (104, (.aload 5, 2, 5, 0, none, [])), (106, (.invokevirtual 96, 3, 19, 49, some (xI 0), [])), (109, (.iload_n 3, 1, 3, 0, none, [])), (110, (.isub, 1, 0, 0, none, [])), (111, (.iload_n 2, 1, 2, 0, none, [])), (112, (.isub, 1, 0, 0, none, [])), (113, (.invokevirtual 168, 3, 23, 53, none, [])), (116, (.aload_n 0, 1, 0, 0, none, []))]),
  (134, [(117, (.aload 5, 2, 5, 0, none, [])), (119, (.iload_n 2, 1, 2, 0, none, [])), (120, (.iload_n 3, 1, 3, 0, none, [])), (121, (.invokevirtual 100, 3, 24, 51, some (xA none), [])), (124, (.putfield 32, 3, 6, 4, some (xA none), [])), (127, (.aload_n 0, 1, 0, 0, none, [])), (128, (.getfield 10, 3, 6, 0, some (xA none), [])), (131, (.iload_n 1, 1, 1, 0, none, [])), (132, (.aload 6, 2, 6, 0, none, []))]),
  (139, [(134, (.invokevirtual 86, 3, 2, 3, none, [])), (137, (.iconst 0, 1, 0, 0, some (xI 0), [])), (138, (.ireturn, 1, 0, 0, none, []))])]
def xc_53 : List (Nat × List (Nat × xEn)) := [(19, [(0, (.iload_n 1, 1, 1, 0, none, [])), (1, (.invokestatic 74, 3, 66, 1, some (xI 0), [])), (4, (.ifCond .ne 5, 3, 9, 0, none, [])), (7, (.iconst (-1), 1, 0, 0, some (xI (-1)), [])), (8, (.ireturn, 1, 0, 0, none, [])), (9, (.aload_n 0, 1, 0, 0, none, [])), (10, (.getfield 32, 3, 6, 4, some (xA none), [])), (13, (.ifnonnull 6, 3, 19, 0, none, [])), (16, (.bipush (-3), 2, 0, 0, some (xI (-3)), [])), (18, (.ireturn, 1, 0, 0, none, []))]),
  (39, [(19, (.aload_n 0, 1, 0, 0, none, [])), (20, (.getfield 10, 3, 6, 0, some (xA none), [])), (23, (.iload_n 1, 1, 1, 0, none, [])), (24, (.invokevirtual 90, 3, 1, 2, some (xA none), [])), (27, (.astore_n 3, 1, 3, 0, none, [])), (28, (.aload_n 3, 1, 3, 0, none, [])), (29, (.instanceof 94, 3, 3, 5, none, [])), (32, (.ifCond .eq 12, 3, 44, 0, none, [])), (35, (.aload_n 3, 1, 3, 0, none, [])), (36, (.checkcast 94, 3, 3, 5, none, []))]),
  (61, [(39, (.astore 4, 2, 4, 0, none, [])), (41, (.goto 8, 3, 49, 0, none, [])), (44, (.aload_n 3, 1, 3, 0, none, [])), (45, (.invokestatic 104, 3, 76, 1, some (xI 0), [])), (48, (.ireturn, 1, 0, 0, none, [])), (49, (.aload 4, 2, 4, 0, none, [])), (51, (.invokevirtual 96, 3, 19, 49, some (xI 0), [])), (54, (.aload_n 0, 1, 0, 0, none, [])), (55, (.getfield 32, 3, 6, 4, some (xA none), [])), (58, (.invokevirtual 96, 3, 19, 49, some (xI 0), []))]),
  (80, [(61, (.iadd, 1, 0, 0, none, [])), (62, (.bipush 24, 2, 0, 0, some (xI 24), [])), (64, (.if_icmp .le 6, 3, 70, 0, none, [])), (67, (.bipush (-4), 2, 0, 0, some (xI (-4)), [])), (69, (.ireturn, 1, 0, 0, none, [])), (70, (.iload_n 2, 1, 2, 0, none, [])), (71, (.ifCond .lt 12, 3, 83, 0, none, [])), (74, (.iload_n 2, 1, 2, 0, none, [])), (75, (.aload 4, 2, 4, 0, none, [])), (77, (.invokevirtual 96, 3, 19, 49, some (xI 0), []))]),
  (101, [(80, (.if_icmp .le 5, 3, 85, 0, none, [])), (83, (.iconst 4, 1, 0, 0, some (xI 4), [])), (84, (.ireturn, 1, 0, 0, none, [])), (85, (.aload_n 0, 1, 0, 0, none, [])), (86, (.getfield 32, 3, 6, 4, some (xA none), [])), (89, (.aload 4, 2, 4, 0, none, [])), (91, (.getfield 162, 3, 3, 0, some (xI 0), [])), (94, (.invokevirtual 172, 3, 25, 50, some (xI 0), [])), (97, (.istore 5, 2, 5, 0, none, [])), (99, (.iload 5, 2, 5, 0, none, []))]),
  (122, [(101, (.aload_n 0, 1, 0, 0, none, [])), (102, (.getfield 32, 3, 6, 4, some (xA none), [])), (105, (.invokevirtual 96, 3, 19, 49, some (xI 0), [])), (108, (.if_icmp .ge 11, 3, 119, 0, none, [])), (111, (.aload_n 0, 1, 0, 0, none, [])), (112, (.iload 5, 2, 5, 0, none, [])), (114, (.invokevirtual 176, 3, 84, 98, none, [])), (117, (.iconst 5, 1, 0, 0, some (xI 5), [])), (118, (.ireturn, 1, 0, 0, none, [])), (119, (.new 94, 3, 3, 3, none, []))]),
  (144, [(122, (.dup, 1, 0, 0, none, [])), (123, (.aload 4, 2, 4, 0, none, [])), (125, (.getfield 162, 3, 3, 0, some (xI 0), [])), (128, (.aload 4, 2, 4, 0, none, [])), (130, (.invokevirtual 96, 3, 19, 49, some (xI 0), [])), (133, (.aload_n 0, 1, 0, 0, none, [])), (134, (.getfield 32, 3, 6, 4, some (xA none), [])), (137, (.invokevirtual 96, 3, 19, 49, some (xI 0), [])), (140, (.iadd, 1, 0, 0, none, [])), (141, (.invokespecial 165, 3, 17, 3, none, []))]),
  (162, [(144, (.astore 6, 2, 6, 0, none, [])), (146, (.aload 6, 2, 6, 0, none, [])), (148, (.aload 4, 2, 4, 0, none, [])), (150, (.iconst 0, 1, 0, 0, some (xI 0), [])), (151, (.iconst 0, 1, 0, 0, some (xI 0), [])), (152, (.iload_n 2, 1, 2, 0, none, [])), (153, (.invokevirtual 168, 3, 23, 53, none, [])), (156, (.aload 6, 2, 6, 0, none, [])), (158, (.aload_n 0, 1, 0, 0, none, [])), (159, (.getfield 32, 3, 6, 4, some (xA none), []))]),
  (180, [(162, (.iconst 0, 1, 0, 0, some (xI 0), [])), (163, (.iload_n 2, 1, 2, 0, none, [])), (164, (.aload_n 0, 1, 0, 0, none, [])), (165, (.getfield 32, 3, 6, 4, some (xA none), [])), (168, (.invokevirtual 96, 3, 19, 49, some (xI 0), [])), (171, (.invokevirtual 168, 3, 23, 53, none, [])), (174, (.aload 6, 2, 6, 0, none, [])), (176, (.aload 4, 2, 4, 0, none, [])), (178, (.iload_n 2, 1, 2, 0, none, [])), (179, (.iload_n 2, 1, 2, 0, none, []))]),
  (199, [(180, (.aload_n 0, 1, 0, 0, none, [])), (181, (.getfield 32, 3, 6, 4, some (xA none), [])), (184, (.invokevirtual 96, 3, 19, 49, some (xI 0), [])), (187, (.iadd, 1, 0, 0, none, [])), (188, (.aload 4, 2, 4, 0, none, [])), (190, (.invokevirtual 96, 3, 19, 49, some (xI 0), [])), (193, (.iload_n 2, 1, 2, 0, none, [])), (194, (.isub, 1, 0, 0, none, [])), (195, (.invokevirtual 168, 3, 23, 53, none, [])), (198, (.aload_n 0, 1, 0, 0, none, []))]),
  (210, [(199, (.getfield 10, 3, 6, 0, some (xA none), [])), (202, (.iload_n 1, 1, 1, 0, none, [])), (203, (.aload 6, 2, 6, 0, none, [])), (205, (.invokevirtual 86, 3, 2, 3, none, [])), (208, (.iconst 0, 1, 0, 0, some (xI 0), [])), (209, (.ireturn, 1, 0, 0, none, []))])]
def xc_54 : List (Nat × List (Nat × xEn)) := [(14, [(0, (.iload_n 1, 1, 1, 0, none, [])), (1, (.invokestatic 74, 3, 66, 1, some (xI 0), [])), (4, (.ifCond .ne 5, 3, 9, 0, none, [])), (7, (.iconst (-1), 1, 0, 0, some (xI (-1)), [])), (8, (.ireturn, 1, 0, 0, none, [])), (9, (.iload_n 2, 1, 2, 0, none, [])), (10, (.ifCond .lt 9, 3, 19, 0, none, [])), (13, (.iload_n 2, 1, 2, 0, none, []))]),
  (30, [(14, (.bipush 12, 2, 0, 0, some (xI 12), [])), (16, (.if_icmp .le 6, 3, 22, 0, none, [])), (19, (.bipush (-2), 2, 0, 0, some (xI (-2)), [])), (21, (.ireturn, 1, 0, 0, none, [])), (22, (.aload_n 0, 1, 0, 0, none, [])), (23, (.getfield 10, 3, 6, 0, some (xA none), [])), (26, (.iload_n 1, 1, 1, 0, none, [])), (27, (.invokevirtual 90, 3, 1, 2, some (xA none), []))]),
  (47, [(30, (.astore_n 3, 1, 3, 0, none, [])), (31, (.aload_n 3, 1, 3, 0, none, [])), (32, (.instanceof 94, 3, 3, 5, none, [])), (35, (.ifCond .eq 12, 3, 47, 0, none, [])), (38, (.aload_n 3, 1, 3, 0, none, [])), (39, (.checkcast 94, 3, 3, 5, none, [])), (42, (.astore 4, 2, 4, 0, none, [])), (44, (.goto 8, 3, 52, 0, none, []))]),
  (62, [(47, (.aload_n 3, 1, 3, 0, none, [])), (48, (.invokestatic 104, 3, 76, 1, some (xI 0), [])), (51, (.ireturn, 1, 0, 0, none, [])), (52, (.aload 4, 2, 4, 0, none, [])), (54, (.iload_n 2, 1, 2, 0, none, [])), (55, (.invokevirtual 172, 3, 25, 50, some (xI 0), [])), (58, (.istore 5, 2, 5, 0, none, [])), (60, (.iload 5, 2, 5, 0, none, []))]),
  (78, [(62, (.aload 4, 2, 4, 0, none, [])), (64, (.invokevirtual 96, 3, 19, 49, some (xI 0), [])), (67, (.if_icmp .ge 11, 3, 78, 0, none, [])), (70, (.aload_n 0, 1, 0, 0, none, [])), (71, (.iload 5, 2, 5, 0, none, [])), (73, (.invokevirtual 176, 3, 84, 98, none, [])), (76, (.iconst 5, 1, 0, 0, some (xI 5), [])), (77, (.ireturn, 1, 0, 0, none, []))]),
  (95, [(78, (.new 94, 3, 3, 3, none, [])), (81, (.dup, 1, 0, 0, none, [])), (82, (.iload_n 2, 1, 2, 0, none, [])), (83, (.aload 4, 2, 4, 0, none, [])), (85, (.invokevirtual 96, 3, 19, 49, some (xI 0), [])), (88, (.invokespecial 165, 3, 17, 3, none, [])), (91, (.astore 6, 2, 6, 0, none, [])), (93, (.aload 6, 2, 6, 0, none, []))]),
  (111, [(95, (.aload 4, 2, 4, 0, none, [])), (97, (.iconst 0, 1, 0, 0, some (xI 0), [])), (98, (.iconst 0, 1, 0, 0, some (xI 0), [])), (99, (.aload 4, 2, 4, 0, none, [])), (101, (.invokevirtual 96, 3, 19, 49, some (xI 0), [])), (104, (.invokevirtual 168, 3, 23, 53, none, [])), (107, (.aload_n 0, 1, 0, 0, none, [])), (108, (.getfield 10, 3, 6, 0, some (xA none), []))]),
  (119, [(111, (.iload_n 1, 1, 1, 0, none, [])), (112, (.aload 6, 2, 6, 0, none, [])), (114, (.invokevirtual 86, 3, 2, 3, none, [])), (117, (.iconst 0, 1, 0, 0, some (xI 0), [])), (118, (.ireturn, 1, 0, 0, none, []))])]
def xc_55 : List (Nat × List (Nat × xEn)) := [(9, [(0, (.iload_n 1, 1, 1, 0, none, [])), (1, (.invokestatic 74, 3, 66, 1, some (xI 0), [])), (4, (.ifCond .ne 5, 3, 9, 0, none, [])), (7, (.iconst (-1), 1, 0, 0, some (xI (-1)), [])), (8, (.ireturn, 1, 0, 0, none, []))]),
  (18, [(9, (.aload_n 0, 1, 0, 0, none, [])), (10, (.getfield 10, 3, 6, 0, some (xA none), [])), (13, (.iload_n 1, 1, 1, 0, none, [])), (14, (.invokevirtual 90, 3, 1, 2, some (xA none), [])), (17, (.astore_n 3, 1, 3, 0, none, []))]),
  (29, [(18, (.aload_n 3, 1, 3, 0, none, [])), (19, (.instanceof 94, 3, 3, 5, none, [])), (22, (.ifCond .eq 15, 3, 37, 0, none, [])), (25, (.aload_n 3, 1, 3, 0, none, [])), (26, (.checkcast 94, 3, 3, 5, none, []))]),
  (38, [(29, (.astore_n 2, 1, 2, 0, none, [])), (30, (.aload_n 2, 1, 2, 0, none, [])), (31, (.invokevirtual 180, 3, 26, 49, some (xI 0), [])), (34, (.goto 4, 3, 38, 0, none, [])), (37, (.iconst 0, 1, 0, 0, some (xI 0), []))]),
  (39, [(38, (.ireturn, 1, 0, 0, none, []))])]
def xc_56 : List (Nat × List (Nat × xEn)) := [(16, [(0, (.iload_n 1, 1, 1, 0, none, [])), (1, (.invokestatic 74, 3, 66, 1, some (xI 0), [])), (4, (.ifCond .eq 10, 3, 14, 0, none, [])), (7, (.iload_n 3, 1, 3, 0, none, [])), (8, (.invokestatic 74, 3, 66, 1, some (xI 0), [])), (11, (.ifCond .ne 5, 3, 16, 0, none, [])), (14, (.iconst (-1), 1, 0, 0, some (xI (-1)), [])), (15, (.ireturn, 1, 0, 0, none, []))]),
  (34, [(16, (.iload 5, 2, 5, 0, none, [])), (18, (.bipush 8, 2, 0, 0, some (xI 8), [])), (20, (.if_icmp .eq 14, 3, 34, 0, none, [])), (23, (.iload 5, 2, 5, 0, none, [])), (25, (.invokestatic 112, 3, 67, 1, some (xI 0), [])), (28, (.ifCond .ne 6, 3, 34, 0, none, [])), (31, (.bipush (-2), 2, 0, 0, some (xI (-2)), [])), (33, (.ireturn, 1, 0, 0, none, []))]),
  (49, [(34, (.iconst 0, 1, 0, 0, some (xI 0), [])), (35, (.istore 6, 2, 6, 0, none, [])), (37, (.iload 6, 2, 6, 0, none, [true, true, true, true, true, true, true])), (39, (.bipush 24, 2, 0, 0, some (xI 24), [])), (41, (.if_icmp .gt 98, 3, 139, 0, none, [])), (44, (.aload_n 0, 1, 0, 0, none, [])), (45, (.iload 5, 2, 5, 0, none, [])), (47, (.bipush 8, 2, 0, 0, some (xI 8), []))]),
  (64, [(49, (.if_icmp .ne 15, 3, 64, 0, none, [])), (52, (.aload_n 0, 1, 0, 0, none, [])), (53, (.iload_n 1, 1, 1, 0, none, [])), (54, (.iload_n 2, 1, 2, 0, none, [])), (55, (.iload 6, 2, 6, 0, none, [])), (57, (.iadd, 1, 0, 0, none, [])), (58, (.invokevirtual 131, 3, 80, 99, some (xI 0), [])), (61, (.goto 14, 3, 75, 0, none, []))]),
  (78, [(64, (.aload_n 0, 1, 0, 0, none, [])), (65, (.iload_n 1, 1, 1, 0, none, [])), (66, (.iload_n 2, 1, 2, 0, none, [])), (67, (.iload 6, 2, 6, 0, none, [])), (69, (.iadd, 1, 0, 0, none, [])), (70, (.iload 5, 2, 5, 0, none, [])), (72, (.invokevirtual 115, 3, 78, 100, some (xI 0), [])), (75, (.putfield 71, 3, 6, 12, some (xI 0), []))]),
  (94, [(78, (.aload_n 0, 1, 0, 0, none, [])), (79, (.getfield 71, 3, 6, 12, some (xI 0), [])), (82, (.ifCond .ne 41, 3, 123, 0, none, [])), (85, (.aload_n 0, 1, 0, 0, none, [])), (86, (.iload 5, 2, 5, 0, none, [])), (88, (.bipush 8, 2, 0, 0, some (xI 8), [])), (90, (.if_icmp .ne 16, 3, 106, 0, none, [])), (93, (.aload_n 0, 1, 0, 0, none, []))]),
  (108, [(94, (.iload_n 3, 1, 3, 0, none, [])), (95, (.iload 4, 2, 4, 0, none, [])), (97, (.iload 6, 2, 6, 0, none, [])), (99, (.iadd, 1, 0, 0, none, [])), (100, (.invokevirtual 134, 3, 81, 99, some (xI 0), [])), (103, (.goto 17, 3, 120, 0, none, [])), (106, (.aload_n 0, 1, 0, 0, none, [])), (107, (.iload_n 3, 1, 3, 0, none, []))]),
  (124, [(108, (.iload 4, 2, 4, 0, none, [])), (110, (.iload 6, 2, 6, 0, none, [])), (112, (.iadd, 1, 0, 0, none, [])), (113, (.aload_n 0, 1, 0, 0, none, [])), (114, (.getfield 25, 3, 6, 2, some (xA none), [])), (117, (.invokevirtual 127, 3, 79, 100, some (xI 0), [])), (120, (.putfield 71, 3, 6, 12, some (xI 0), [])), (123, (.aload_n 0, 1, 0, 0, none, []))]),
  (142, [(124, (.getfield 71, 3, 6, 12, some (xI 0), [])), (127, (.ifCond .eq 6, 3, 133, 0, none, [])), (130, (.iload 6, 2, 6, 0, none, [])), (132, (.ireturn, 1, 0, 0, none, [])), (133, (.iinc 6 1, 3, 6, 0, some (xI (1)), [])), (136, (.goto (-99), 3, 37, 0, none, [])), (139, (.bipush 24, 2, 0, 0, some (xI 24), [])), (141, (.ireturn, 1, 0, 0, none, []))])]
def xc_57 : List (Nat × List (Nat × xEn)) := [(10, [(0, (.iload_n 1, 1, 1, 0, none, [])), (1, (.invokestatic 74, 3, 66, 1, some (xI 0), [])), (4, (.ifCond .ne 5, 3, 9, 0, none, [])), (7, (.iconst (-1), 1, 0, 0, some (xI (-1)), [])), (8, (.ireturn, 1, 0, 0, none, [])), (9, (.iload_n 2, 1, 2, 0, none, []))]),
  (23, [(10, (.invokestatic 112, 3, 67, 1, some (xI 0), [])), (13, (.ifCond .eq 7, 3, 20, 0, none, [])), (16, (.iload_n 2, 1, 2, 0, none, [])), (17, (.ifCond .ne 6, 3, 23, 0, none, [])), (20, (.bipush (-2), 2, 0, 0, some (xI (-2)), [])), (22, (.ireturn, 1, 0, 0, none, []))]),
  (31, [(23, (.aload_n 0, 1, 0, 0, none, [])), (24, (.aload_n 0, 1, 0, 0, none, [])), (25, (.iload_n 1, 1, 1, 0, none, [])), (26, (.iload_n 2, 1, 2, 0, none, [])), (27, (.aload_n 0, 1, 0, 0, none, [])), (28, (.getfield 49, 3, 6, 7, some (xA none), []))]),
  (45, [(31, (.invokevirtual 183, 3, 83, 100, some (xI 0), [])), (34, (.putfield 71, 3, 6, 12, some (xI 0), [])), (37, (.aload_n 0, 1, 0, 0, none, [])), (38, (.getfield 71, 3, 6, 12, some (xI 0), [])), (41, (.iconst 4, 1, 0, 0, some (xI 4), [])), (42, (.if_icmp .eq 11, 3, 53, 0, none, []))]),
  (54, [(45, (.bipush (-10), 2, 0, 0, some (xI (-10)), [])), (47, (.aload_n 0, 1, 0, 0, none, [])), (48, (.getfield 71, 3, 6, 12, some (xI 0), [])), (51, (.isub, 1, 0, 0, none, [])), (52, (.ireturn, 1, 0, 0, none, [])), (53, (.aload_n 0, 1, 0, 0, none, []))]),
  (66, [(54, (.aload_n 0, 1, 0, 0, none, [])), (55, (.getfield 49, 3, 6, 7, some (xA none), [])), (58, (.iload_n 2, 1, 2, 0, none, [])), (59, (.invokevirtual 187, 3, 16, 34, some (xA none), [])), (62, (.putfield 25, 3, 6, 2, some (xA none), [])), (65, (.iconst 0, 1, 0, 0, some (xI 0), []))]),
  (67, [(66, (.ireturn, 1, 0, 0, none, []))])]
def xc_58 : List (Nat × List (Nat × xEn)) := [(16, [(0, (.iload_n 1, 1, 1, 0, none, [])), (1, (.invokestatic 74, 3, 66, 1, some (xI 0), [])), (4, (.ifCond .ne 5, 3, 9, 0, none, [])), (7, (.iconst (-1), 1, 0, 0, some (xI (-1)), [])), (8, (.ireturn, 1, 0, 0, none, [])), (9, (.iload_n 2, 1, 2, 0, none, [])), (10, (.invokestatic 112, 3, 67, 1, some (xI 0), [])), (13, (.ifCond .eq 12, 3, 25, 0, none, []))]),
  (29, [(16, (.iload_n 3, 1, 3, 0, none, [])), (17, (.ifCond .lt 8, 3, 25, 0, none, [])), (20, (.iload_n 3, 1, 3, 0, none, [])), (21, (.iconst 2, 1, 0, 0, some (xI 2), [])), (22, (.if_icmp .le 6, 3, 28, 0, none, [])), (25, (.bipush (-2), 2, 0, 0, some (xI (-2)), [])), (27, (.ireturn, 1, 0, 0, none, [])), (28, (.aload_n 0, 1, 0, 0, none, []))]),
  (43, [(29, (.aload_n 0, 1, 0, 0, none, [])), (30, (.iload_n 1, 1, 1, 0, none, [])), (31, (.iload_n 2, 1, 2, 0, none, [])), (32, (.aload_n 0, 1, 0, 0, none, [])), (33, (.getfield 49, 3, 6, 7, some (xA none), [])), (36, (.invokevirtual 183, 3, 83, 100, some (xI 0), [])), (39, (.putfield 71, 3, 6, 12, some (xI 0), [])), (42, (.aload_n 0, 1, 0, 0, none, []))]),
  (58, [(43, (.getfield 71, 3, 6, 12, some (xI 0), [])), (46, (.iconst 4, 1, 0, 0, some (xI 4), [])), (47, (.if_icmp .eq 11, 3, 58, 0, none, [])), (50, (.bipush (-10), 2, 0, 0, some (xI (-10)), [])), (52, (.aload_n 0, 1, 0, 0, none, [])), (53, (.getfield 71, 3, 6, 12, some (xI 0), [])), (56, (.isub, 1, 0, 0, none, [])), (57, (.ireturn, 1, 0, 0, none, []))]),
  (73, [(58, (.iload_n 2, 1, 2, 0, none, [])), (59, (.iconst 5, 1, 0, 0, some (xI 5), [])), (60, (.if_icmp .gt 7, 3, 67, 0, none, [])), (63, (.iconst 5, 1, 0, 0, some (xI 5), [])), (64, (.goto 4, 3, 68, 0, none, [])), (67, (.iload_n 2, 1, 2, 0, none, [])), (68, (.lload 4, 2, 4, 0, none, [])), (70, (.invokestatic 123, 3, 32, 2, some (xA none), []))]),
  (88, [(73, (.astore 6, 2, 6, 0, none, [])), (75, (.aload_n 0, 1, 0, 0, none, [])), (76, (.getfield 43, 3, 6, 6, some (xA none), [])), (79, (.invokevirtual 191, 3, 6, 17, none, [])), (82, (.iconst 0, 1, 0, 0, some (xI 0), [])), (83, (.istore 7, 2, 7, 0, none, [])), (85, (.iload 7, 2, 7, 0, none, [true, false, false, true, false, false, true, true])), (87, (.aload_n 0, 1, 0, 0, none, []))]),
  (108, [(88, (.getfield 49, 3, 6, 7, some (xA none), [])), (91, (.invokevirtual 194, 3, 14, 33, some (xI 0), [])), (94, (.if_icmp .ge 41, 3, 135, 0, none, [])), (97, (.aload_n 0, 1, 0, 0, none, [])), (98, (.getfield 49, 3, 6, 7, some (xA none), [])), (101, (.iload 7, 2, 7, 0, none, [])), (103, (.invokevirtual 195, 3, 15, 34, some (xA none), [])), (106, (.aload 6, 2, 6, 0, none, []))]),
  (123, [(108, (.invokevirtual 197, 3, 36, 82, some (xI 0), [])), (111, (.iload_n 3, 1, 3, 0, none, [])), (112, (.iconst 1, 1, 0, 0, some (xI 1), [])), (113, (.isub, 1, 0, 0, none, [])), (114, (.if_icmp .ne 15, 3, 129, 0, none, [])), (117, (.aload_n 0, 1, 0, 0, none, [])), (118, (.getfield 43, 3, 6, 6, some (xA none), [])), (121, (.iload 7, 2, 7, 0, none, []))]),
  (140, [(123, (.iload 7, 2, 7, 0, none, [])), (125, (.invokevirtual 200, 3, 7, 19, some (xI 0), [])), (128, (.pop, 1, 0, 0, none, [])), (129, (.iinc 7 1, 3, 7, 0, some (xI (1)), [])), (132, (.goto (-47), 3, 85, 0, none, [])), (135, (.aload_n 0, 1, 0, 0, none, [])), (136, (.invokevirtual 202, 3, 86, 97, some (xI 0), [])), (139, (.ireturn, 1, 0, 0, none, []))])]
def xc_59 : List (Nat × List (Nat × xEn)) := [(15, [(0, (.iload_n 1, 1, 1, 0, none, [])), (1, (.invokestatic 74, 3, 66, 1, some (xI 0), [])), (4, (.ifCond .eq 10, 3, 14, 0, none, [])), (7, (.iload_n 2, 1, 2, 0, none, [])), (8, (.invokestatic 74, 3, 66, 1, some (xI 0), [])), (11, (.ifCond .ne 5, 3, 16, 0, none, [])), (14, (.iconst (-1), 1, 0, 0, some (xI (-1)), []))]),
  (27, [(15, (.ireturn, 1, 0, 0, none, [])), (16, (.iload_n 3, 1, 3, 0, none, [])), (17, (.invokestatic 112, 3, 67, 1, some (xI 0), [])), (20, (.ifCond .ne 6, 3, 26, 0, none, [])), (23, (.bipush (-2), 2, 0, 0, some (xI (-2)), [])), (25, (.ireturn, 1, 0, 0, none, [])), (26, (.aload_n 0, 1, 0, 0, none, []))]),
  (40, [(27, (.aload_n 0, 1, 0, 0, none, [])), (28, (.iload_n 1, 1, 1, 0, none, [])), (29, (.iload_n 3, 1, 3, 0, none, [])), (30, (.aload_n 0, 1, 0, 0, none, [])), (31, (.getfield 49, 3, 6, 7, some (xA none), [])), (34, (.invokevirtual 183, 3, 83, 100, some (xI 0), [])), (37, (.putfield 71, 3, 6, 12, some (xI 0), []))]),
  (51, [(40, (.aload_n 0, 1, 0, 0, none, [])), (41, (.getfield 71, 3, 6, 12, some (xI 0), [])), (44, (.iconst 4, 1, 0, 0, some (xI 4), [])), (45, (.if_icmp .ne 17, 3, 62, 0, none, [])), (48, (.aload_n 0, 1, 0, 0, none, [])), (49, (.aload_n 0, 1, 0, 0, none, [])), (50, (.iload_n 2, 1, 2, 0, none, []))]),
  (66, [(51, (.iload_n 3, 1, 3, 0, none, [])), (52, (.aload_n 0, 1, 0, 0, none, [])), (53, (.getfield 53, 3, 6, 8, some (xA none), [])), (56, (.invokevirtual 183, 3, 83, 100, some (xI 0), [])), (59, (.putfield 71, 3, 6, 12, some (xI 0), [])), (62, (.aload_n 0, 1, 0, 0, none, [])), (63, (.getfield 71, 3, 6, 12, some (xI 0), []))]),
  (78, [(66, (.iconst 4, 1, 0, 0, some (xI 4), [])), (67, (.if_icmp .eq 11, 3, 78, 0, none, [])), (70, (.bipush (-10), 2, 0, 0, some (xI (-10)), [])), (72, (.aload_n 0, 1, 0, 0, none, [])), (73, (.getfield 71, 3, 6, 12, some (xI 0), [])), (76, (.isub, 1, 0, 0, none, [])), (77, (.ireturn, 1, 0, 0, none, []))]),
  (94, [(78, (.aload_n 0, 1, 0, 0, none, [])), (79, (.invokevirtual 205, 3, 85, 97, some (xI 0), [])), (82, (.ifCond .eq 10, 3, 92, 0, none, [])), (85, (.aload_n 0, 1, 0, 0, none, [])), (86, (.invokevirtual 202, 3, 86, 97, some (xI 0), [])), (89, (.goto 5, 3, 94, 0, none, [])), (92, (.bipush (-4), 2, 0, 0, some (xI (-4)), []))]),
  (95, [(94, (.ireturn, 1, 0, 0, none, []))])]
def xc_60 : List (Nat × List (Nat × xEn)) := [(6, [(0, (.iload_n 2, 1, 2, 0, none, [])), (1, (.ifCond .eq 11, 3, 12, 0, none, [])), (4, (.iload_n 2, 1, 2, 0, none, [])), (5, (.iconst 1, 1, 0, 0, some (xI 1), []))]),
  (13, [(6, (.if_icmp .eq 6, 3, 12, 0, none, [])), (9, (.bipush (-2), 2, 0, 0, some (xI (-2)), [])), (11, (.ireturn, 1, 0, 0, none, [])), (12, (.aload_n 0, 1, 0, 0, none, []))]),
  (23, [(13, (.getfield 39, 3, 6, 5, some (xA none), [])), (16, (.iload_n 1, 1, 1, 0, none, [])), (17, (.invokevirtual 208, 3, 9, 18, some (xI 0), [])), (20, (.ifCond .eq 15, 3, 35, 0, none, []))]),
  (29, [(23, (.aload_n 0, 1, 0, 0, none, [])), (24, (.getfield 39, 3, 6, 5, some (xA none), [])), (27, (.iload_n 1, 1, 1, 0, none, [])), (28, (.iload_n 2, 1, 2, 0, none, []))]),
  (38, [(29, (.invokevirtual 211, 3, 10, 19, some (xI 0), [])), (32, (.goto 5, 3, 37, 0, none, [])), (35, (.bipush (-6), 2, 0, 0, some (xI (-6)), [])), (37, (.ireturn, 1, 0, 0, none, []))])]
def xc_61 : List (Nat × List (Nat × xEn)) := [(17, [(0, (.iload_n 1, 1, 1, 0, none, [])), (1, (.invokestatic 74, 3, 66, 1, some (xI 0), [])), (4, (.ifCond .eq 10, 3, 14, 0, none, [])), (7, (.iload_n 3, 1, 3, 0, none, [])), (8, (.invokestatic 74, 3, 66, 1, some (xI 0), [])), (11, (.ifCond .ne 5, 3, 16, 0, none, [])), (14, (.iconst (-1), 1, 0, 0, some (xI (-1)), [])), (15, (.ireturn, 1, 0, 0, none, [])), (16, (.iload_n 2, 1, 2, 0, none, []))]),
  (33, [(17, (.ifCond .eq 11, 3, 28, 0, none, [])), (20, (.iload_n 2, 1, 2, 0, none, [])), (21, (.iconst 1, 1, 0, 0, some (xI 1), [])), (22, (.if_icmp .eq 6, 3, 28, 0, none, [])), (25, (.bipush (-2), 2, 0, 0, some (xI (-2)), [])), (27, (.ireturn, 1, 0, 0, none, [])), (28, (.aload_n 0, 1, 0, 0, none, [])), (29, (.getfield 10, 3, 6, 0, some (xA none), [])), (32, (.iload_n 1, 1, 1, 0, none, []))]),
  (56, [(33, (.invokevirtual 90, 3, 1, 2, some (xA none), [])), (36, (.astore 4, 2, 4, 0, none, [])), (38, (.aload 4, 2, 4, 0, none, [])), (40, (.instanceof 94, 3, 3, 5, none, [])), (43, (.ifCond .eq 13, 3, 56, 0, none, [])), (46, (.aload 4, 2, 4, 0, none, [])), (48, (.checkcast 94, 3, 3, 5, none, [])), (51, (.astore 5, 2, 5, 0, none, [])), (53, (.goto 9, 3, 62, 0, none, []))]),
  (75, [(56, (.aload 4, 2, 4, 0, none, [])), (58, (.invokestatic 104, 3, 76, 1, some (xI 0), [])), (61, (.ireturn, 1, 0, 0, none, [])), (62, (.new 94, 3, 3, 3, none, [])), (65, (.dup, 1, 0, 0, none, [])), (66, (.aload 5, 2, 5, 0, none, [])), (68, (.getfield 162, 3, 3, 0, some (xI 0), [])), (71, (.aload_n 0, 1, 0, 0, none, [])), (72, (.getfield 39, 3, 6, 5, some (xA none), []))]),
  (95, [(75, (.invokevirtual 214, 3, 8, 17, some (xI 0), [])), (78, (.invokespecial 165, 3, 17, 3, none, [])), (81, (.astore 6, 2, 6, 0, none, [])), (83, (.iconst 0, 1, 0, 0, some (xI 0), [])), (84, (.istore 7, 2, 7, 0, none, [])), (86, (.iload 7, 2, 7, 0, none, [true, false, true, true, false, true, true, true, false])), (88, (.aload_n 0, 1, 0, 0, none, [])), (89, (.getfield 39, 3, 6, 5, some (xA none), [])), (92, (.invokevirtual 214, 3, 8, 17, some (xI 0), []))]),
  (114, [(95, (.if_icmp .ge 47, 3, 142, 0, none, [])), (98, (.aload_n 0, 1, 0, 0, none, [])), (99, (.getfield 39, 3, 6, 5, some (xA none), [])), (102, (.iload 7, 2, 7, 0, none, [])), (104, (.iload_n 2, 1, 2, 0, none, [])), (105, (.invokevirtual 211, 3, 10, 19, some (xI 0), [])), (108, (.istore 8, 2, 8, 0, none, [])), (110, (.aload 5, 2, 5, 0, none, [])), (112, (.iload 8, 2, 8, 0, none, []))]),
  (133, [(114, (.invokevirtual 215, 3, 20, 50, some (xI 0), [])), (117, (.ifCond .ne 5, 3, 122, 0, none, [])), (120, (.iconst 4, 1, 0, 0, some (xI 4), [])), (121, (.ireturn, 1, 0, 0, none, [])), (122, (.aload 6, 2, 6, 0, none, [])), (124, (.iload 7, 2, 7, 0, none, [])), (126, (.aload 5, 2, 5, 0, none, [])), (128, (.iload 8, 2, 8, 0, none, [])), (130, (.invokevirtual 216, 3, 21, 50, some (xA none), []))]),
  (153, [(133, (.invokevirtual 217, 3, 22, 51, none, [])), (136, (.iinc 7 1, 3, 7, 0, some (xI (1)), [])), (139, (.goto (-53), 3, 86, 0, none, [])), (142, (.aload_n 0, 1, 0, 0, none, [])), (143, (.getfield 10, 3, 6, 0, some (xA none), [])), (146, (.iload_n 3, 1, 3, 0, none, [])), (147, (.aload 6, 2, 6, 0, none, [])), (149, (.invokevirtual 86, 3, 2, 3, none, [])), (152, (.iconst 0, 1, 0, 0, some (xI 0), []))]),
  (154, [(153, (.ireturn, 1, 0, 0, none, []))])]
def xc_62 : List (Nat × List (Nat × xEn)) := [(9, [(0, (.iload_n 1, 1, 1, 0, none, [])), (1, (.invokestatic 220, 3, 69, 1, some (xI 0), [])), (4, (.ifCond .ne 6, 3, 10, 0, none, [])), (7, (.bipush (-2), 2, 0, 0, some (xI (-2)), []))]),
  (15, [(9, (.ireturn, 1, 0, 0, none, [])), (10, (.aload_n 0, 1, 0, 0, none, [])), (11, (.getfield 16, 3, 6, 1, some (xA none), [])), (14, (.iload_n 1, 1, 1, 0, none, []))]),
  (23, [(15, (.aload_n 0, 1, 0, 0, none, [])), (16, (.getfield 10, 3, 6, 0, some (xA none), [])), (19, (.invokevirtual 223, 3, 3, 1, some (xA none), [])), (22, (.aastore, 1, 0, 0, none, []))]),
  (25, [(23, (.iconst 1, 1, 0, 0, some (xI 1), [])), (24, (.ireturn, 1, 0, 0, none, []))])]
def xc_63 : List (Nat × List (Nat × xEn)) := [(9, [(0, (.iload_n 1, 1, 1, 0, none, [])), (1, (.invokestatic 220, 3, 69, 1, some (xI 0), [])), (4, (.ifCond .ne 6, 3, 10, 0, none, [])), (7, (.bipush (-2), 2, 0, 0, some (xI (-2)), []))]),
  (15, [(9, (.ireturn, 1, 0, 0, none, [])), (10, (.aload_n 0, 1, 0, 0, none, [])), (11, (.getfield 16, 3, 6, 1, some (xA none), [])), (14, (.iload_n 1, 1, 1, 0, none, []))]),
  (21, [(15, (.aaload, 1, 0, 0, none, [])), (16, (.astore_n 2, 1, 2, 0, none, [])), (17, (.aload_n 2, 1, 2, 0, none, [])), (18, (.ifnonnull 6, 3, 24, 0, none, []))]),
  (26, [(21, (.bipush (-3), 2, 0, 0, some (xI (-3)), [])), (23, (.ireturn, 1, 0, 0, none, [])), (24, (.aload_n 0, 1, 0, 0, none, [])), (25, (.aload_n 2, 1, 2, 0, none, []))]),
  (34, [(26, (.invokevirtual 223, 3, 3, 1, some (xA none), [])), (29, (.putfield 10, 3, 6, 0, some (xA none), [])), (32, (.iconst 1, 1, 0, 0, some (xI 1), [])), (33, (.ireturn, 1, 0, 0, none, []))])]
def xc_64 : List (Nat × List (Nat × xEn)) := [(7, [(0, (.iload_n 1, 1, 1, 0, none, [])), (1, (.ifCond .lt 19, 3, 20, 0, none, [])), (4, (.iload_n 1, 1, 1, 0, none, [])), (5, (.bipush 19, 2, 0, 0, some (xI 19), []))]),
  (15, [(7, (.if_icmp .ge 13, 3, 20, 0, none, [])), (10, (.iload_n 2, 1, 2, 0, none, [])), (11, (.ifCond .lt 9, 3, 20, 0, none, [])), (14, (.iload_n 2, 1, 2, 0, none, []))]),
  (23, [(15, (.bipush 6, 2, 0, 0, some (xI 6), [])), (17, (.if_icmp .lt 6, 3, 23, 0, none, [])), (20, (.bipush (-2), 2, 0, 0, some (xI (-2)), [])), (22, (.ireturn, 1, 0, 0, none, []))]),
  (29, [(23, (.aload_n 0, 1, 0, 0, none, [])), (24, (.getfield 67, 3, 6, 11, some (xA none), [])), (27, (.iload_n 1, 1, 1, 0, none, [])), (28, (.iload_n 2, 1, 2, 0, none, []))]),
  (33, [(29, (.invokevirtual 227, 3, 29, 67, some (xI 0), [])), (32, (.ireturn, 1, 0, 0, none, []))])]
def xc_65 : List (Nat × List (Nat × xEn)) := [(49, [(0, (.iload_n 1, 1, 1, 0, none, [])), (1, (.tableswitch 105 0 5 #[39, 44, 52, 72, 92, 97], 39, 106, 0, none, [])), (40, (.aload_n 0, 1, 0, 0, none, [])), (41, (.getfield 71, 3, 6, 12, some (xI 0), [])), (44, (.ireturn, 1, 0, 0, none, [])), (45, (.aload_n 0, 1, 0, 0, none, [])), (46, (.getfield 39, 3, 6, 5, some (xA none), []))]),
  (65, [(49, (.invokevirtual 214, 3, 8, 17, some (xI 0), [])), (52, (.ireturn, 1, 0, 0, none, [])), (53, (.aload_n 0, 1, 0, 0, none, [])), (54, (.getfield 32, 3, 6, 4, some (xA none), [])), (57, (.ifnonnull 8, 3, 65, 0, none, [])), (60, (.bipush (-6), 2, 0, 0, some (xI (-6)), [])), (62, (.goto 10, 3, 72, 0, none, []))]),
  (80, [(65, (.aload_n 0, 1, 0, 0, none, [])), (66, (.getfield 32, 3, 6, 4, some (xA none), [])), (69, (.invokevirtual 96, 3, 19, 49, some (xI 0), [])), (72, (.ireturn, 1, 0, 0, none, [])), (73, (.aload_n 0, 1, 0, 0, none, [])), (74, (.getfield 32, 3, 6, 4, some (xA none), [])), (77, (.ifnonnull 8, 3, 85, 0, none, []))]),
  (94, [(80, (.bipush (-6), 2, 0, 0, some (xI (-6)), [])), (82, (.goto 10, 3, 92, 0, none, [])), (85, (.aload_n 0, 1, 0, 0, none, [])), (86, (.getfield 32, 3, 6, 4, some (xA none), [])), (89, (.getfield 162, 3, 3, 0, some (xI 0), [])), (92, (.ireturn, 1, 0, 0, none, [])), (93, (.aload_n 0, 1, 0, 0, none, []))]),
  (107, [(94, (.getfield 60, 3, 6, 10, some (xI 0), [])), (97, (.ireturn, 1, 0, 0, none, [])), (98, (.aload_n 0, 1, 0, 0, none, [])), (99, (.getfield 67, 3, 6, 11, some (xA none), [])), (102, (.invokevirtual 230, 3, 30, 65, some (xI 0), [])), (105, (.ireturn, 1, 0, 0, none, [])), (106, (.iload_n 1, 1, 1, 0, none, []))]),
  (122, [(107, (.bipush 10, 2, 0, 0, some (xI 10), [])), (109, (.if_icmp .lt 28, 3, 137, 0, none, [])), (112, (.iload_n 1, 1, 1, 0, none, [])), (113, (.bipush 20, 2, 0, 0, some (xI 20), [])), (115, (.if_icmp .ge 22, 3, 137, 0, none, [])), (118, (.aload_n 0, 1, 0, 0, none, [])), (119, (.getfield 10, 3, 6, 0, some (xA none), []))]),
  (139, [(122, (.iload_n 1, 1, 1, 0, none, [])), (123, (.bipush 10, 2, 0, 0, some (xI 10), [])), (125, (.isub, 1, 0, 0, none, [])), (126, (.invokevirtual 90, 3, 1, 2, some (xA none), [])), (129, (.invokeinterface 233 1, 5, 18, 34, some (xI 0), [])), (134, (.goto 5, 3, 139, 0, none, [])), (137, (.bipush (-2), 2, 0, 0, some (xI (-2)), []))]),
  (140, [(139, (.ireturn, 1, 0, 0, none, []))])]
def xc_66 : List (Nat × List (Nat × xEn)) := [(5, [(0, (.iload_n 0, 1, 0, 0, none, [])), (1, (.ifCond .lt 13, 3, 14, 0, none, [])), (4, (.iload_n 0, 1, 0, 0, none, []))]),
  (11, [(5, (.bipush 10, 2, 0, 0, some (xI 10), [])), (7, (.if_icmp .ge 7, 3, 14, 0, none, [])), (10, (.iconst 1, 1, 0, 0, some (xI 1), []))]),
  (16, [(11, (.goto 4, 3, 15, 0, none, [])), (14, (.iconst 0, 1, 0, 0, some (xI 0), [])), (15, (.ireturn, 1, 0, 1, none, []))])]
def xc_67 : List (Nat × List (Nat × xEn)) := [(5, [(0, (.iload_n 0, 1, 0, 0, none, [])), (1, (.ifCond .lt 13, 3, 14, 0, none, [])), (4, (.iload_n 0, 1, 0, 0, none, []))]),
  (11, [(5, (.bipush 7, 2, 0, 0, some (xI 7), [])), (7, (.if_icmp .gt 7, 3, 14, 0, none, [])), (10, (.iconst 1, 1, 0, 0, some (xI 1), []))]),
  (16, [(11, (.goto 4, 3, 15, 0, none, [])), (14, (.iconst 0, 1, 0, 0, some (xI 0), [])), (15, (.ireturn, 1, 0, 1, none, []))])]
def xc_68 : List (Nat × List (Nat × xEn)) := [(3, [(0, (.lload_n 0, 1, 0, 0, none, [])), (1, (.lconst 0, 1, 0, 0, some (xJ 0), [])), (2, (.lcmp, 1, 0, 0, none, []))]),
  (10, [(3, (.ifCond .lt 15, 3, 18, 0, none, [])), (6, (.lload_n 0, 1, 0, 0, none, [])), (7, (.ldc2_w 238, 3, 0, 0, some (xJ (99)), []))]),
  (15, [(10, (.lcmp, 1, 0, 0, none, [])), (11, (.ifCond .gt 7, 3, 18, 0, none, [])), (14, (.iconst 1, 1, 0, 0, some (xI 1), []))]),
  (20, [(15, (.goto 4, 3, 19, 0, none, [])), (18, (.iconst 0, 1, 0, 0, some (xI 0), [])), (19, (.ireturn, 1, 0, 1, none, []))])]
def xc_69 : List (Nat × List (Nat × xEn)) := [(5, [(0, (.iload_n 0, 1, 0, 0, none, [])), (1, (.ifCond .lt 12, 3, 13, 0, none, [])), (4, (.iload_n 0, 1, 0, 0, none, []))]),
  (10, [(5, (.iconst 2, 1, 0, 0, some (xI 2), [])), (6, (.if_icmp .ge 7, 3, 13, 0, none, [])), (9, (.iconst 1, 1, 0, 0, some (xI 1), []))]),
  (15, [(10, (.goto 4, 3, 14, 0, none, [])), (13, (.iconst 0, 1, 0, 0, some (xI 0), [])), (14, (.ireturn, 1, 0, 1, none, []))])]
def xc_70 : List (Nat × List (Nat × xEn)) := [(11, [(0, (.iload_n 0, 1, 0, 0, none, [])), (1, (.ifCond .lt 25, 3, 26, 0, none, [])), (4, (.iload_n 0, 1, 0, 0, none, [])), (5, (.bipush 12, 2, 0, 0, some (xI 12), [])), (7, (.if_icmp .gt 19, 3, 26, 0, none, [])), (10, (.iload_n 1, 1, 1, 0, none, []))]),
  (24, [(11, (.ifCond .lt 13, 3, 24, 0, none, [])), (14, (.iload_n 1, 1, 1, 0, none, [])), (15, (.bipush 24, 2, 0, 0, some (xI 24), [])), (17, (.if_icmp .gt 7, 3, 24, 0, none, [])), (20, (.iconst 1, 1, 0, 0, some (xI 1), [])), (21, (.goto 4, 3, 25, 0, none, []))]),
  (33, [(24, (.iconst 0, 1, 0, 0, some (xI 0), [])), (25, (.ireturn, 1, 0, 1, none, [])), (26, (.iload_n 0, 1, 0, 0, none, [])), (27, (.bipush 13, 2, 0, 0, some (xI 13), [])), (29, (.if_icmp .eq 23, 3, 52, 0, none, [])), (32, (.iload_n 0, 1, 0, 0, none, []))]),
  (45, [(33, (.bipush 15, 2, 0, 0, some (xI 15), [])), (35, (.if_icmp .eq 17, 3, 52, 0, none, [])), (38, (.iload_n 0, 1, 0, 0, none, [])), (39, (.bipush 14, 2, 0, 0, some (xI 14), [])), (41, (.if_icmp .ne 15, 3, 56, 0, none, [])), (44, (.iload_n 1, 1, 1, 0, none, []))]),
  (57, [(45, (.i2l, 1, 0, 0, none, [])), (46, (.invokestatic 137, 3, 68, 1, some (xI 0), [])), (49, (.ifCond .eq 7, 3, 56, 0, none, [])), (52, (.iconst 1, 1, 0, 0, some (xI 1), [])), (53, (.goto 4, 3, 57, 0, none, [])), (56, (.iconst 0, 1, 0, 0, some (xI 0), []))]),
  (58, [(57, (.ireturn, 1, 0, 1, none, []))])]
def xc_71 : List (Nat × List (Nat × xEn)) := [(5, [(0, (.iload_n 0, 1, 0, 0, none, [])), (1, (.ifCond .lt 19, 3, 20, 0, none, [])), (4, (.iload_n 0, 1, 0, 0, none, []))]),
  (12, [(5, (.getstatic 240, 3, 0, 0, none, [])), (8, (.arraylength, 1, 0, 0, none, [])), (9, (.if_icmp .ge 11, 3, 20, 0, none, []))]),
  (17, [(12, (.getstatic 240, 3, 0, 0, none, [])), (15, (.iload_n 0, 1, 0, 0, none, [])), (16, (.iaload, 1, 0, 0, none, []))]),
  (22, [(17, (.goto 4, 3, 21, 0, none, [])), (20, (.iconst 0, 1, 0, 0, some (xI 0), [])), (21, (.ireturn, 1, 0, 0, none, []))])]
def xc_72 : List (Nat × List (Nat × xEn)) := [(5, [(0, (.iload_n 1, 1, 1, 0, none, [])), (1, (.invokestatic 243, 3, 71, 1, some (xI 0), [])), (4, (.iload_n 0, 1, 0, 0, none, []))]),
  (8, [(5, (.ishr, 1, 0, 0, none, [])), (6, (.iconst 1, 1, 0, 0, some (xI 1), [])), (7, (.iand, 1, 0, 0, none, []))]),
  (13, [(8, (.iconst 1, 1, 0, 0, some (xI 1), [])), (9, (.if_icmp .ne 7, 3, 16, 0, none, [])), (12, (.iconst 1, 1, 0, 0, some (xI 1), []))]),
  (18, [(13, (.goto 4, 3, 17, 0, none, [])), (16, (.iconst 0, 1, 0, 0, some (xI 0), [])), (17, (.ireturn, 1, 0, 1, none, []))])]
def xc_73 : List (Nat × List (Nat × xEn)) := [(32, [(0, (.iload_n 1, 1, 1, 0, none, [])), (1, (.tableswitch 60 13 15 #[27, 35, 48], 27, 61, 0, none, [])), (28, (.aload_n 0, 1, 0, 0, none, [])), (29, (.bipush 8, 2, 0, 0, some (xI 8), [])), (31, (.iload_n 2, 1, 2, 0, none, []))]),
  (42, [(32, (.invokevirtual 141, 3, 74, 99, some (xA none), [])), (35, (.areturn, 1, 0, 0, none, [])), (36, (.new 20, 3, 5, 3, none, [])), (39, (.dup, 1, 0, 0, none, [])), (40, (.bipush 10, 2, 0, 0, some (xI 10), []))]),
  (49, [(42, (.iload_n 2, 1, 2, 0, none, [])), (43, (.i2l, 1, 0, 0, none, [])), (44, (.dconst 0, 1, 0, 0, some (xD 0), [])), (45, (.invokespecial 22, 3, 31, 4, none, [])), (48, (.areturn, 1, 0, 0, none, []))]),
  (57, [(49, (.new 20, 3, 5, 3, none, [])), (52, (.dup, 1, 0, 0, none, [])), (53, (.bipush 11, 2, 0, 0, some (xI 11), [])), (55, (.lconst 0, 1, 0, 0, some (xJ 0), [])), (56, (.dconst 0, 1, 0, 0, some (xD 0), []))]),
  (66, [(57, (.invokespecial 22, 3, 31, 4, none, [])), (60, (.areturn, 1, 0, 0, none, [])), (61, (.new 94, 3, 3, 3, none, [])), (64, (.dup, 1, 0, 0, none, [])), (65, (.iload_n 1, 1, 1, 0, none, []))]),
  (71, [(66, (.iload_n 2, 1, 2, 0, none, [])), (67, (.invokespecial 165, 3, 17, 3, none, [])), (70, (.areturn, 1, 0, 0, none, []))])]
def xc_74 : List (Nat × List (Nat × xEn)) := [(9, [(0, (.aload_n 0, 1, 0, 0, none, [])), (1, (.getfield 60, 3, 6, 10, some (xI 0), [])), (4, (.aload_n 0, 1, 0, 0, none, [])), (5, (.getfield 56, 3, 6, 9, some (xA none), [])), (8, (.arraylength, 1, 0, 0, none, []))]),
  (20, [(9, (.if_icmp .ge 23, 3, 32, 0, none, [])), (12, (.aload_n 0, 1, 0, 0, none, [])), (13, (.getfield 56, 3, 6, 9, some (xA none), [])), (16, (.aload_n 0, 1, 0, 0, none, [])), (17, (.getfield 60, 3, 6, 10, some (xI 0), []))]),
  (27, [(20, (.iload_n 2, 1, 2, 0, none, [])), (21, (.iastore, 1, 0, 0, none, [])), (22, (.aload_n 0, 1, 0, 0, none, [])), (23, (.dup, 1, 0, 0, none, [])), (24, (.getfield 60, 3, 6, 10, some (xI 0), []))]),
  (36, [(27, (.iconst 1, 1, 0, 0, some (xI 1), [])), (28, (.iadd, 1, 0, 0, none, [])), (29, (.putfield 60, 3, 6, 10, some (xI 0), [])), (32, (.new 20, 3, 5, 3, none, [])), (35, (.dup, 1, 0, 0, none, []))]),
  (43, [(36, (.iload_n 1, 1, 1, 0, none, [])), (37, (.aload_n 0, 1, 0, 0, none, [])), (38, (.getfield 60, 3, 6, 10, some (xI 0), [])), (41, (.i2l, 1, 0, 0, none, [])), (42, (.dconst 0, 1, 0, 0, some (xD 0), []))]),
  (47, [(43, (.invokespecial 22, 3, 31, 4, none, [])), (46, (.areturn, 1, 0, 0, none, []))])]
def xc_75 : List (Nat × List (Nat × xEn)) := [(6, [(0, (.aload_n 1, 1, 1, 0, none, [])), (1, (.getfield 156, 3, 5, 1, some (xJ 0), [])), (4, (.l2i, 1, 0, 0, none, [])), (5, (.iconst 1, 1, 0, 0, some (xI 1), []))]),
  (12, [(6, (.isub, 1, 0, 0, none, [])), (7, (.istore_n 2, 1, 2, 0, none, [])), (8, (.iload_n 2, 1, 2, 0, none, [])), (9, (.ifCond .lt 21, 3, 30, 0, none, []))]),
  (18, [(12, (.iload_n 2, 1, 2, 0, none, [])), (13, (.aload_n 0, 1, 0, 0, none, [])), (14, (.getfield 56, 3, 6, 9, some (xA none), [])), (17, (.arraylength, 1, 0, 0, none, []))]),
  (26, [(18, (.if_icmp .ge 12, 3, 30, 0, none, [])), (21, (.aload_n 0, 1, 0, 0, none, [])), (22, (.getfield 56, 3, 6, 9, some (xA none), [])), (25, (.iload_n 2, 1, 2, 0, none, []))]),
  (32, [(26, (.iaload, 1, 0, 0, none, [])), (27, (.goto 4, 3, 31, 0, none, [])), (30, (.iconst 0, 1, 0, 0, some (xI 0), [])), (31, (.ireturn, 1, 0, 0, none, []))])]
def xc_76 : List (Nat × List (Nat × xEn)) := [(8, [(0, (.aload_n 0, 1, 0, 0, none, [])), (1, (.instanceof 94, 3, 3, 5, none, [])), (4, (.ifCond .eq 5, 3, 9, 0, none, [])), (7, (.iconst 0, 1, 0, 0, some (xI 0), []))]),
  (17, [(8, (.ireturn, 1, 0, 0, none, [])), (9, (.aload_n 0, 1, 0, 0, none, [])), (10, (.invokeinterface 233 1, 5, 18, 34, some (xI 0), [])), (15, (.bipush 15, 2, 0, 0, some (xI 15), []))]),
  (25, [(17, (.if_icmp .ne 7, 3, 24, 0, none, [])), (20, (.iconst 1, 1, 0, 0, some (xI 1), [])), (21, (.goto 4, 3, 25, 0, none, [])), (24, (.iconst 2, 1, 0, 0, some (xI 2), []))]),
  (26, [(25, (.ireturn, 1, 0, 0, none, []))])]
def xc_77 : List (Nat × List (Nat × xEn)) := [(11, [(0, (.aload_n 0, 1, 0, 0, none, [])), (1, (.instanceof 94, 3, 3, 5, none, [])), (4, (.ifCond .eq 11, 3, 15, 0, none, [])), (7, (.aload_n 0, 1, 0, 0, none, [])), (8, (.checkcast 94, 3, 3, 5, none, []))]),
  (20, [(11, (.astore_n 2, 1, 2, 0, none, [])), (12, (.goto 8, 3, 20, 0, none, [])), (15, (.aload_n 0, 1, 0, 0, none, [])), (16, (.invokestatic 104, 3, 76, 1, some (xI 0), [])), (19, (.ireturn, 1, 0, 0, none, []))]),
  (31, [(20, (.aload_n 2, 1, 2, 0, none, [])), (21, (.getfield 162, 3, 3, 0, some (xI 0), [])), (24, (.invokestatic 112, 3, 67, 1, some (xI 0), [])), (27, (.ifCond .ne 5, 3, 32, 0, none, [])), (30, (.iconst 3, 1, 0, 0, some (xI 3), []))]),
  (40, [(31, (.ireturn, 1, 0, 0, none, [])), (32, (.aload_n 2, 1, 2, 0, none, [])), (33, (.iload_n 1, 1, 1, 0, none, [])), (34, (.invokevirtual 215, 3, 20, 50, some (xI 0), [])), (37, (.ifCond .eq 7, 3, 44, 0, none, []))]),
  (46, [(40, (.iconst 0, 1, 0, 0, some (xI 0), [])), (41, (.goto 4, 3, 45, 0, none, [])), (44, (.iconst 4, 1, 0, 0, some (xI 4), [])), (45, (.ireturn, 1, 0, 0, none, []))])]
def xc_78 : List (Nat × List (Nat × xEn)) := [(12, [(0, (.aload_n 0, 1, 0, 0, none, [])), (1, (.getfield 10, 3, 6, 0, some (xA none), [])), (4, (.iload_n 1, 1, 1, 0, none, [])), (5, (.invokevirtual 90, 3, 1, 2, some (xA none), [])), (8, (.astore 4, 2, 4, 0, none, [])), (10, (.aload 4, 2, 4, 0, none, []))]),
  (25, [(12, (.iload_n 2, 1, 2, 0, none, [])), (13, (.invokestatic 246, 3, 77, 2, some (xI 0), [])), (16, (.istore 5, 2, 5, 0, none, [])), (18, (.iload 5, 2, 5, 0, none, [])), (20, (.ifCond .ne 50, 3, 70, 0, none, [])), (23, (.aload 4, 2, 4, 0, none, []))]),
  (39, [(25, (.instanceof 94, 3, 3, 5, none, [])), (28, (.ifCond .eq 42, 3, 70, 0, none, [])), (31, (.aload 4, 2, 4, 0, none, [])), (33, (.checkcast 94, 3, 3, 5, none, [])), (36, (.astore 6, 2, 6, 0, none, [])), (38, (.iload_n 3, 1, 3, 0, none, []))]),
  (53, [(39, (.aload 6, 2, 6, 0, none, [])), (41, (.getfield 162, 3, 3, 0, some (xI 0), [])), (44, (.invokestatic 250, 3, 72, 2, some (xI 0), [])), (47, (.ifCond .eq 20, 3, 67, 0, none, [])), (50, (.aload_n 0, 1, 0, 0, none, [])), (51, (.aload 6, 2, 6, 0, none, []))]),
  (67, [(53, (.iload_n 2, 1, 2, 0, none, [])), (54, (.invokevirtual 216, 3, 21, 50, some (xA none), [])), (57, (.iload_n 3, 1, 3, 0, none, [])), (58, (.invokevirtual 253, 3, 35, 82, some (xA none), [])), (61, (.putfield 25, 3, 6, 2, some (xA none), [])), (64, (.goto 6, 3, 70, 0, none, []))]),
  (77, [(67, (.iconst 5, 1, 0, 0, some (xI 5), [])), (68, (.istore 5, 2, 5, 0, none, [])), (70, (.aload_n 0, 1, 0, 0, none, [])), (71, (.getfield 67, 3, 6, 11, some (xA none), [])), (74, (.iload_n 3, 1, 3, 0, none, [])), (75, (.iload 5, 2, 5, 0, none, []))]),
  (81, [(77, (.invokevirtual 108, 3, 28, 67, some (xI 0), [])), (80, (.ireturn, 1, 0, 0, none, []))])]
def xc_79 : List (Nat × List (Nat × xEn)) := [(12, [(0, (.aload_n 0, 1, 0, 0, none, [])), (1, (.getfield 10, 3, 6, 0, some (xA none), [])), (4, (.iload_n 1, 1, 1, 0, none, [])), (5, (.invokevirtual 90, 3, 1, 2, some (xA none), [])), (8, (.astore 4, 2, 4, 0, none, [])), (10, (.aload 4, 2, 4, 0, none, []))]),
  (25, [(12, (.iload_n 2, 1, 2, 0, none, [])), (13, (.invokestatic 246, 3, 77, 2, some (xI 0), [])), (16, (.istore 5, 2, 5, 0, none, [])), (18, (.iload 5, 2, 5, 0, none, [])), (20, (.ifCond .ne 27, 3, 47, 0, none, [])), (23, (.aload 4, 2, 4, 0, none, []))]),
  (40, [(25, (.instanceof 94, 3, 3, 5, none, [])), (28, (.ifCond .eq 19, 3, 47, 0, none, [])), (31, (.aload 4, 2, 4, 0, none, [])), (33, (.checkcast 94, 3, 3, 5, none, [])), (36, (.astore 6, 2, 6, 0, none, [])), (38, (.aload 6, 2, 6, 0, none, []))]),
  (51, [(40, (.iload_n 2, 1, 2, 0, none, [])), (41, (.aload_n 3, 1, 3, 0, none, [])), (42, (.invokestatic 256, 3, 82, 3, some (xI 0), [])), (45, (.istore 5, 2, 5, 0, none, [])), (47, (.aload_n 0, 1, 0, 0, none, [])), (48, (.getfield 67, 3, 6, 11, some (xA none), []))]),
  (63, [(51, (.bipush 9, 2, 0, 0, some (xI 9), [])), (53, (.aload_n 3, 1, 3, 0, none, [])), (54, (.getfield 145, 3, 5, 0, some (xI 0), [])), (57, (.iadd, 1, 0, 0, none, [])), (58, (.iload 5, 2, 5, 0, none, [])), (60, (.invokevirtual 108, 3, 28, 67, some (xI 0), []))]),
  (64, [(63, (.ireturn, 1, 0, 0, none, []))])]
def xc_80 : List (Nat × List (Nat × xEn)) := [(10, [(0, (.aload_n 0, 1, 0, 0, none, [])), (1, (.getfield 10, 3, 6, 0, some (xA none), [])), (4, (.iload_n 1, 1, 1, 0, none, [])), (5, (.invokevirtual 90, 3, 1, 2, some (xA none), [])), (8, (.astore_n 3, 1, 3, 0, none, [])), (9, (.aload_n 3, 1, 3, 0, none, []))]),
  (23, [(10, (.invokestatic 104, 3, 76, 1, some (xI 0), [])), (13, (.istore 4, 2, 4, 0, none, [])), (15, (.aload_n 3, 1, 3, 0, none, [])), (16, (.instanceof 94, 3, 3, 5, none, [])), (19, (.ifCond .eq 34, 3, 53, 0, none, [])), (22, (.aload_n 3, 1, 3, 0, none, []))]),
  (37, [(23, (.checkcast 94, 3, 3, 5, none, [])), (26, (.astore 5, 2, 5, 0, none, [])), (28, (.aload 5, 2, 5, 0, none, [])), (30, (.iload_n 2, 1, 2, 0, none, [])), (31, (.invokevirtual 215, 3, 20, 50, some (xI 0), [])), (34, (.ifCond .eq 16, 3, 50, 0, none, []))]),
  (50, [(37, (.aload_n 0, 1, 0, 0, none, [])), (38, (.aload 5, 2, 5, 0, none, [])), (40, (.iload_n 2, 1, 2, 0, none, [])), (41, (.invokevirtual 216, 3, 21, 50, some (xA none), [])), (44, (.putfield 29, 3, 6, 3, some (xA none), [])), (47, (.goto 6, 3, 53, 0, none, []))]),
  (61, [(50, (.iconst 4, 1, 0, 0, some (xI 4), [])), (51, (.istore 4, 2, 4, 0, none, [])), (53, (.aload_n 0, 1, 0, 0, none, [])), (54, (.getfield 67, 3, 6, 11, some (xA none), [])), (57, (.bipush 8, 2, 0, 0, some (xI 8), [])), (59, (.iload 4, 2, 4, 0, none, []))]),
  (65, [(61, (.invokevirtual 108, 3, 28, 67, some (xI 0), [])), (64, (.ireturn, 1, 0, 0, none, []))])]
def xc_81 : List (Nat × List (Nat × xEn)) := [(10, [(0, (.aload_n 0, 1, 0, 0, none, [])), (1, (.getfield 10, 3, 6, 0, some (xA none), [])), (4, (.iload_n 1, 1, 1, 0, none, [])), (5, (.invokevirtual 90, 3, 1, 2, some (xA none), [])), (8, (.astore_n 3, 1, 3, 0, none, [])), (9, (.aload_n 3, 1, 3, 0, none, []))]),
  (23, [(10, (.invokestatic 104, 3, 76, 1, some (xI 0), [])), (13, (.istore 4, 2, 4, 0, none, [])), (15, (.aload_n 3, 1, 3, 0, none, [])), (16, (.instanceof 94, 3, 3, 5, none, [])), (19, (.ifCond .eq 34, 3, 53, 0, none, [])), (22, (.aload_n 3, 1, 3, 0, none, []))]),
  (37, [(23, (.checkcast 94, 3, 3, 5, none, [])), (26, (.astore 5, 2, 5, 0, none, [])), (28, (.aload 5, 2, 5, 0, none, [])), (30, (.iload_n 2, 1, 2, 0, none, [])), (31, (.invokevirtual 215, 3, 20, 50, some (xI 0), [])), (34, (.ifCond .eq 16, 3, 50, 0, none, []))]),
  (50, [(37, (.aload 5, 2, 5, 0, none, [])), (39, (.iload_n 2, 1, 2, 0, none, [])), (40, (.aload_n 0, 1, 0, 0, none, [])), (41, (.getfield 29, 3, 6, 3, some (xA none), [])), (44, (.invokestatic 256, 3, 82, 3, some (xI 0), [])), (47, (.goto 4, 3, 51, 0, none, []))]),
  (61, [(50, (.iconst 4, 1, 0, 0, some (xI 4), [])), (51, (.istore 4, 2, 4, 0, none, [])), (53, (.aload_n 0, 1, 0, 0, none, [])), (54, (.getfield 67, 3, 6, 11, some (xA none), [])), (57, (.bipush 17, 2, 0, 0, some (xI 17), [])), (59, (.iload 4, 2, 4, 0, none, []))]),
  (65, [(61, (.invokevirtual 108, 3, 28, 67, some (xI 0), [])), (64, (.ireturn, 1, 0, 0, none, []))])]
def xc_82 : List (Nat × List (Nat × xEn)) := [(8, [(0, (.aload_n 0, 1, 0, 0, none, [])), (1, (.getfield 162, 3, 3, 0, some (xI 0), [])), (4, (.aload_n 2, 1, 2, 0, none, [])), (5, (.getfield 145, 3, 5, 0, some (xI 0), []))]),
  (16, [(8, (.invokestatic 250, 3, 72, 2, some (xI 0), [])), (11, (.ifCond .ne 5, 3, 16, 0, none, [])), (14, (.iconst 5, 1, 0, 0, some (xI 5), [])), (15, (.ireturn, 1, 0, 0, none, []))]),
  (22, [(16, (.aload_n 0, 1, 0, 0, none, [])), (17, (.iload_n 1, 1, 1, 0, none, [])), (18, (.aload_n 2, 1, 2, 0, none, [])), (19, (.invokevirtual 217, 3, 22, 51, none, []))]),
  (24, [(22, (.iconst 0, 1, 0, 0, some (xI 0), [])), (23, (.ireturn, 1, 0, 0, none, []))])]
def xc_83 : List (Nat × List (Nat × xEn)) := [(8, [(0, (.aload_n 3, 1, 3, 0, none, [])), (1, (.invokevirtual 260, 3, 12, 33, none, [])), (4, (.iconst 0, 1, 0, 0, some (xI 0), [])), (5, (.istore 4, 2, 4, 0, none, [])), (7, (.iconst 0, 1, 0, 0, some (xI 0), []))]),
  (19, [(8, (.istore 5, 2, 5, 0, none, [])), (10, (.iload 4, 2, 4, 0, none, [true, true, true, true, true, true])), (12, (.ifCond .ne 39, 3, 51, 0, none, [])), (15, (.iload 5, 2, 5, 0, none, [])), (17, (.bipush 24, 2, 0, 0, some (xI 24), []))]),
  (27, [(19, (.if_icmp .gt 32, 3, 51, 0, none, [])), (22, (.aload_n 0, 1, 0, 0, none, [])), (23, (.iload_n 1, 1, 1, 0, none, [])), (24, (.iload 5, 2, 5, 0, none, [])), (26, (.iload_n 2, 1, 2, 0, none, []))]),
  (38, [(27, (.invokevirtual 115, 3, 78, 100, some (xI 0), [])), (30, (.istore 4, 2, 4, 0, none, [])), (32, (.iload 4, 2, 4, 0, none, [])), (34, (.ifCond .ne 11, 3, 45, 0, none, [])), (37, (.aload_n 3, 1, 3, 0, none, []))]),
  (51, [(38, (.aload_n 0, 1, 0, 0, none, [])), (39, (.getfield 25, 3, 6, 2, some (xA none), [])), (42, (.invokevirtual 261, 3, 13, 34, none, [])), (45, (.iinc 5 1, 3, 5, 0, some (xI (1)), [])), (48, (.goto (-38), 3, 10, 0, none, []))]),
  (54, [(51, (.iload 4, 2, 4, 0, none, [])), (53, (.ireturn, 1, 0, 0, none, []))])]
def xc_84 : List (Nat × List (Nat × xEn)) := [(5, [(0, (.aload_n 0, 1, 0, 0, none, [])), (1, (.new 20, 3, 5, 3, none, [])), (4, (.dup, 1, 0, 0, none, []))]),
  (8, [(5, (.iconst 4, 1, 0, 0, some (xI 4), [])), (6, (.iload_n 1, 1, 1, 0, none, [])), (7, (.i2l, 1, 0, 0, none, []))]),
  (15, [(8, (.dconst 0, 1, 0, 0, some (xD 0), [])), (9, (.invokespecial 22, 3, 31, 4, none, [])), (12, (.putfield 25, 3, 6, 2, some (xA none), []))]),
  (16, [(15, (.return_, 1, 0, 0, none, []))])]
def xc_85 : List (Nat × List (Nat × xEn)) := [(10, [(0, (.aload_n 0, 1, 0, 0, none, [])), (1, (.getfield 43, 3, 6, 6, some (xA none), [])), (4, (.invokevirtual 191, 3, 6, 17, none, [])), (7, (.iconst 0, 1, 0, 0, some (xI 0), [])), (8, (.istore_n 1, 1, 1, 0, none, [])), (9, (.iload_n 1, 1, 1, 0, none, [true, true, false]))]),
  (22, [(10, (.aload_n 0, 1, 0, 0, none, [])), (11, (.getfield 49, 3, 6, 7, some (xA none), [])), (14, (.invokevirtual 194, 3, 14, 33, some (xI 0), [])), (17, (.if_icmp .ge 64, 3, 81, 0, none, [])), (20, (.iconst 0, 1, 0, 0, some (xI 0), [])), (21, (.istore_n 2, 1, 2, 0, none, []))]),
  (34, [(22, (.iload_n 2, 1, 2, 0, none, [true, true, true])), (23, (.aload_n 0, 1, 0, 0, none, [])), (24, (.getfield 53, 3, 6, 8, some (xA none), [])), (27, (.invokevirtual 194, 3, 14, 33, some (xI 0), [])), (30, (.if_icmp .ge 45, 3, 75, 0, none, [])), (33, (.aload_n 0, 1, 0, 0, none, []))]),
  (46, [(34, (.getfield 49, 3, 6, 7, some (xA none), [])), (37, (.iload_n 1, 1, 1, 0, none, [])), (38, (.invokevirtual 195, 3, 15, 34, some (xA none), [])), (41, (.aload_n 0, 1, 0, 0, none, [])), (42, (.getfield 53, 3, 6, 8, some (xA none), [])), (45, (.iload_n 2, 1, 2, 0, none, []))]),
  (60, [(46, (.invokevirtual 195, 3, 15, 34, some (xA none), [])), (49, (.invokevirtual 197, 3, 36, 82, some (xI 0), [])), (52, (.ifCond .ne 17, 3, 69, 0, none, [])), (55, (.aload_n 0, 1, 0, 0, none, [])), (56, (.getfield 43, 3, 6, 6, some (xA none), [])), (59, (.iload_n 1, 1, 1, 0, none, []))]),
  (72, [(60, (.iload_n 2, 1, 2, 0, none, [])), (61, (.invokevirtual 200, 3, 7, 19, some (xI 0), [])), (64, (.ifCond .ne 5, 3, 69, 0, none, [])), (67, (.iconst 0, 1, 0, 0, some (xI 0), [])), (68, (.ireturn, 1, 0, 1, none, [])), (69, (.iinc 2 1, 3, 2, 0, some (xI (1)), []))]),
  (83, [(72, (.goto (-50), 3, 22, 0, none, [])), (75, (.iinc 1 1, 3, 1, 0, some (xI (1)), [])), (78, (.goto (-69), 3, 9, 0, none, [])), (81, (.iconst 1, 1, 0, 0, some (xI 1), [])), (82, (.ireturn, 1, 0, 1, none, []))])]
def xc_86 : List (Nat × List (Nat × xEn)) := [(6, [(0, (.aload_n 0, 1, 0, 0, none, [])), (1, (.getfield 39, 3, 6, 5, some (xA none), [])), (4, (.astore_n 1, 1, 1, 0, none, [])), (5, (.aload_n 0, 1, 0, 0, none, []))]),
  (14, [(6, (.aload_n 0, 1, 0, 0, none, [])), (7, (.getfield 43, 3, 6, 6, some (xA none), [])), (10, (.putfield 39, 3, 6, 5, some (xA none), [])), (13, (.aload_n 0, 1, 0, 0, none, []))]),
  (22, [(14, (.aload_n 1, 1, 1, 0, none, [])), (15, (.putfield 43, 3, 6, 6, some (xA none), [])), (18, (.aload_n 0, 1, 0, 0, none, [])), (19, (.getfield 39, 3, 6, 5, some (xA none), []))]),
  (26, [(22, (.invokevirtual 214, 3, 8, 17, some (xI 0), [])), (25, (.ireturn, 1, 0, 0, none, []))])]
def xc_87 : List (Nat × List (Nat × xEn)) := [(20, [(0, (.aload_n 0, 1, 0, 0, none, [])), (1, (.invokespecial 1, 3, 1000, 1, none, [])), (4, (.aload_n 0, 1, 0, 0, none, [])), (5, (.bipush 16, 2, 0, 0, some (xI 16), [])), (7, (.newarray .int, 2, 0, 0, none, [])), (9, (.putfield 7, 3, 7, 0, some (xA none), [])), (12, (.aload_n 0, 1, 0, 0, none, [])), (13, (.bipush 16, 2, 0, 0, some (xI 16), [])), (15, (.newarray .int, 2, 0, 0, none, [])), (17, (.putfield 13, 3, 7, 1, some (xA none), []))]),
  (42, [(20, (.aload_n 0, 1, 0, 0, none, [])), (21, (.sipush 384, 3, 0, 0, some (xI 384), [])), (24, (.newarray .int, 2, 0, 0, none, [])), (26, (.putfield 16, 3, 7, 2, some (xA none), [])), (29, (.aload_n 0, 1, 0, 0, none, [])), (30, (.sipush 384, 3, 0, 0, some (xI 384), [])), (33, (.newarray .long, 2, 1, 0, none, [])), (35, (.putfield 19, 3, 7, 3, some (xA none), [])), (38, (.aload_n 0, 1, 0, 0, none, [])), (39, (.sipush 384, 3, 0, 0, some (xI 384), []))]),
  (62, [(42, (.newarray .double, 2, 2, 0, none, [])), (44, (.putfield 23, 3, 7, 4, some (xA none), [])), (47, (.aload_n 0, 1, 0, 0, none, [])), (48, (.bipush 10, 2, 0, 0, some (xI 10), [])), (50, (.newarray .int, 2, 0, 0, none, [])), (52, (.putfield 27, 3, 7, 5, some (xA none), [])), (55, (.aload_n 0, 1, 0, 0, none, [])), (56, (.bipush (-6), 2, 0, 0, some (xI (-6)), [])), (58, (.putfield 30, 3, 7, 6, some (xI 0), [])), (61, (.aload_n 0, 1, 0, 0, none, []))]),
  (83, [(62, (.bipush 11, 2, 0, 0, some (xI 11), [])), (64, (.putfield 34, 3, 7, 7, some (xI 0), [])), (67, (.aload_n 0, 1, 0, 0, none, [])), (68, (.bipush 61, 2, 0, 0, some (xI 61), [])), (70, (.newarray .int, 2, 0, 0, none, [])), (72, (.putfield 37, 3, 7, 11, some (xA none), [])), (75, (.aload_n 0, 1, 0, 0, none, [])), (76, (.bipush 61, 2, 0, 0, some (xI 61), [])), (78, (.newarray .boolean, 2, 3, 0, none, [])), (80, (.putfield 40, 3, 7, 12, some (xA none), []))]),
  (102, [(83, (.aload_n 0, 1, 0, 0, none, [])), (84, (.bipush 114, 2, 0, 0, some (xI 114), [])), (86, (.newarray .int, 2, 0, 0, none, [])), (88, (.putfield 44, 3, 7, 14, some (xA none), [])), (91, (.aload_n 0, 1, 0, 0, none, [])), (92, (.bipush (-6), 2, 0, 0, some (xI (-6)), [])), (94, (.putfield 47, 3, 7, 15, some (xI 0), [])), (97, (.aload_n 0, 1, 0, 0, none, [])), (98, (.bipush 24, 2, 0, 0, some (xI 24), [])), (100, (.newarray .int, 2, 0, 0, none, []))]),
  (122, [(102, (.putfield 50, 3, 7, 16, some (xA none), [])), (105, (.aload_n 0, 1, 0, 0, none, [])), (106, (.bipush 24, 2, 0, 0, some (xI 24), [])), (108, (.newarray .int, 2, 0, 0, none, [])), (110, (.putfield 53, 3, 7, 17, some (xA none), [])), (113, (.aload_n 0, 1, 0, 0, none, [])), (114, (.bipush 48, 2, 0, 0, some (xI 48), [])), (116, (.newarray .long, 2, 1, 0, none, [])), (118, (.putfield 56, 3, 7, 23, some (xA none), [])), (121, (.aload_n 0, 1, 0, 0, none, []))]),
  (141, [(122, (.bipush 48, 2, 0, 0, some (xI 48), [])), (124, (.newarray .double, 2, 2, 0, none, [])), (126, (.putfield 59, 3, 7, 24, some (xA none), [])), (129, (.aload_n 0, 1, 0, 0, none, [])), (130, (.iconst 2, 1, 0, 0, some (xI 2), [])), (131, (.newarray .boolean, 2, 3, 0, none, [])), (133, (.putfield 62, 3, 7, 26, some (xA none), [])), (136, (.aload_n 0, 1, 0, 0, none, [])), (137, (.bipush 20, 2, 0, 0, some (xI 20), [])), (139, (.newarray .int, 2, 0, 0, none, []))]),
  (161, [(141, (.putfield 65, 3, 7, 27, some (xA none), [])), (144, (.aload_n 0, 1, 0, 0, none, [])), (145, (.bipush 20, 2, 0, 0, some (xI 20), [])), (147, (.newarray .int, 2, 0, 0, none, [])), (149, (.putfield 68, 3, 7, 28, some (xA none), [])), (152, (.aload_n 0, 1, 0, 0, none, [])), (153, (.bipush 20, 2, 0, 0, some (xI 20), [])), (155, (.newarray .int, 2, 0, 0, none, [])), (157, (.putfield 71, 3, 7, 29, some (xA none), [])), (160, (.aload_n 0, 1, 0, 0, none, []))]),
  (183, [(161, (.bipush 20, 2, 0, 0, some (xI 20), [])), (163, (.newarray .int, 2, 0, 0, none, [])), (165, (.putfield 74, 3, 7, 30, some (xA none), [])), (168, (.aload_n 0, 1, 0, 0, none, [])), (169, (.sipush 480, 3, 0, 0, some (xI 480), [])), (172, (.newarray .int, 2, 0, 0, none, [])), (174, (.putfield 77, 3, 7, 31, some (xA none), [])), (177, (.aload_n 0, 1, 0, 0, none, [])), (178, (.sipush 480, 3, 0, 0, some (xI 480), [])), (181, (.newarray .long, 2, 1, 0, none, []))]),
  (203, [(183, (.putfield 80, 3, 7, 32, some (xA none), [])), (186, (.aload_n 0, 1, 0, 0, none, [])), (187, (.sipush 480, 3, 0, 0, some (xI 480), [])), (190, (.newarray .double, 2, 2, 0, none, [])), (192, (.putfield 83, 3, 7, 33, some (xA none), [])), (195, (.iconst 0, 1, 0, 0, some (xI 0), [])), (196, (.istore_n 1, 1, 1, 0, none, [])), (197, (.iload_n 1, 1, 1, 0, none, [true, true])), (198, (.bipush 10, 2, 0, 0, some (xI 10), [])), (200, (.if_icmp .ge 16, 3, 216, 0, none, []))]),
  (217, [(203, (.aload_n 0, 1, 0, 0, none, [])), (204, (.getfield 27, 3, 7, 5, some (xA none), [])), (207, (.iload_n 1, 1, 1, 0, none, [])), (208, (.iconst (-1), 1, 0, 0, some (xI (-1)), [])), (209, (.iastore, 1, 0, 0, none, [])), (210, (.iinc 1 1, 3, 1, 0, some (xI (1)), [])), (213, (.goto (-16), 3, 197, 0, none, [])), (216, (.return_, 1, 0, 0, none, []))])]
def xc_88 : List (Nat × List (Nat × xEn)) := [(3, [(0, (.lload_n 0, 1, 0, 0, none, [])), (1, (.lload_n 2, 1, 2, 0, none, [])), (2, (.lcmp, 1, 0, 0, none, []))]),
  (9, [(3, (.ifCond .lt 14, 3, 17, 0, none, [])), (6, (.lload_n 0, 1, 0, 0, none, [])), (7, (.lload 4, 2, 4, 0, none, []))]),
  (14, [(9, (.lcmp, 1, 0, 0, none, [])), (10, (.ifCond .gt 7, 3, 17, 0, none, [])), (13, (.iconst 1, 1, 0, 0, some (xI 1), []))]),
  (19, [(14, (.goto 4, 3, 18, 0, none, [])), (17, (.iconst 0, 1, 0, 0, some (xI 0), [])), (18, (.ireturn, 1, 0, 1, none, []))])]
def xc_89 : List (Nat × List (Nat × xEn)) := [(2, [(0, (.iload_n 0, 1, 0, 0, none, [])), (1, (.i2l, 1, 0, 0, none, []))]),
  (6, [(2, (.lconst 0, 1, 0, 0, some (xJ 0), [])), (3, (.ldc2_w 86, 3, 0, 0, some (xJ (9)), []))]),
  (10, [(6, (.invokestatic 88, 3, 88, 3, some (xI 0), [])), (9, (.ireturn, 1, 0, 1, none, []))])]
def xc_90 : List (Nat × List (Nat × xEn)) := [(5, [(0, (.aload_n 0, 1, 0, 0, none, [])), (1, (.getfield 27, 3, 7, 5, some (xA none), [])), (4, (.iload_n 1, 1, 1, 0, none, []))]),
  (8, [(5, (.iaload, 1, 0, 0, none, [])), (6, (.i2l, 1, 0, 0, none, [])), (7, (.lconst 0, 1, 0, 0, some (xJ 0), []))]),
  (15, [(8, (.ldc2_w 92, 3, 0, 0, some (xJ (15)), [])), (11, (.invokestatic 88, 3, 88, 3, some (xI 0), [])), (14, (.ireturn, 1, 0, 1, none, []))])]
def xc_91 : List (Nat × List (Nat × xEn)) := [(6, [(0, (.aload_n 0, 1, 0, 0, none, [])), (1, (.getfield 27, 3, 7, 5, some (xA none), [])), (4, (.iload_n 1, 1, 1, 0, none, [])), (5, (.iaload, 1, 0, 0, none, []))]),
  (14, [(6, (.iconst (-1), 1, 0, 0, some (xI (-1)), [])), (7, (.if_icmp .ne 7, 3, 14, 0, none, [])), (10, (.iconst 1, 1, 0, 0, some (xI 1), [])), (11, (.goto 16, 3, 27, 0, none, []))]),
  (22, [(14, (.aload_n 0, 1, 0, 0, none, [])), (15, (.iload_n 1, 1, 1, 0, none, [])), (16, (.invokevirtual 94, 3, 90, 114, some (xI 0), [])), (19, (.ifCond .eq 7, 3, 26, 0, none, []))]),
  (28, [(22, (.iconst 0, 1, 0, 0, some (xI 0), [])), (23, (.goto 4, 3, 27, 0, none, [])), (26, (.iconst 2, 1, 0, 0, some (xI 2), [])), (27, (.ireturn, 1, 0, 0, none, []))])]
def xc_92 : List (Nat × List (Nat × xEn)) := [(11, [(0, (.bipush (-6), 2, 0, 0, some (xI (-6)), [])), (2, (.istore_n 2, 1, 2, 0, none, [])), (3, (.iconst 0, 1, 0, 0, some (xI 0), [])), (4, (.istore_n 3, 1, 3, 0, none, [])), (5, (.iload_n 3, 1, 3, 0, none, [true, true, true, true, false, false])), (6, (.bipush 16, 2, 0, 0, some (xI 16), [])), (8, (.if_icmp .ge 83, 3, 91, 0, none, []))]),
  (24, [(11, (.iload_n 3, 1, 3, 0, none, [])), (12, (.aload_n 0, 1, 0, 0, none, [])), (13, (.getfield 30, 3, 7, 6, some (xI 0), [])), (16, (.if_icmp .eq 8, 3, 24, 0, none, [])), (19, (.iload_n 3, 1, 3, 0, none, [])), (20, (.iload_n 1, 1, 1, 0, none, [])), (21, (.if_icmp .ne 7, 3, 28, 0, none, []))]),
  (36, [(24, (.iconst 1, 1, 0, 0, some (xI 1), [])), (25, (.goto 4, 3, 29, 0, none, [])), (28, (.iconst 0, 1, 0, 0, some (xI 0), [])), (29, (.istore 4, 2, 4, 0, none, [])), (31, (.iconst 0, 1, 0, 0, some (xI 0), [])), (32, (.istore 5, 2, 5, 0, none, [])), (34, (.iload 5, 2, 5, 0, none, [true, true, true, true, true, true]))]),
  (52, [(36, (.bipush 10, 2, 0, 0, some (xI 10), [])), (38, (.if_icmp .ge 32, 3, 70, 0, none, [])), (41, (.iload 4, 2, 4, 0, none, [])), (43, (.ifCond .ne 14, 3, 57, 0, none, [])), (46, (.aload_n 0, 1, 0, 0, none, [])), (47, (.getfield 27, 3, 7, 5, some (xA none), [])), (50, (.iload 5, 2, 5, 0, none, []))]),
  (64, [(52, (.iaload, 1, 0, 0, none, [])), (53, (.iload_n 3, 1, 3, 0, none, [])), (54, (.if_icmp .ne 7, 3, 61, 0, none, [])), (57, (.iconst 1, 1, 0, 0, some (xI 1), [])), (58, (.goto 4, 3, 62, 0, none, [])), (61, (.iconst 0, 1, 0, 0, some (xI 0), [])), (62, (.istore 4, 2, 4, 0, none, []))]),
  (80, [(64, (.iinc 5 1, 3, 5, 0, some (xI (1)), [])), (67, (.goto (-33), 3, 34, 0, none, [])), (70, (.iload_n 2, 1, 2, 0, none, [])), (71, (.ifCond .ge 12, 3, 83, 0, none, [])), (74, (.iload 4, 2, 4, 0, none, [])), (76, (.ifCond .ne 7, 3, 83, 0, none, [])), (79, (.iload_n 3, 1, 3, 0, none, []))]),
  (93, [(80, (.goto 4, 3, 84, 0, none, [])), (83, (.iload_n 2, 1, 2, 0, none, [])), (84, (.istore_n 2, 1, 2, 0, none, [])), (85, (.iinc 3 1, 3, 3, 0, some (xI (1)), [])), (88, (.goto (-83), 3, 5, 0, none, [])), (91, (.iload_n 2, 1, 2, 0, none, [])), (92, (.ireturn, 1, 0, 0, none, []))])]
def xc_93 : List (Nat × List (Nat × xEn)) := [(8, [(0, (.aload_n 0, 1, 0, 0, none, [])), (1, (.getfield 7, 3, 7, 0, some (xA none), [])), (4, (.iload_n 1, 1, 1, 0, none, [])), (5, (.iload_n 2, 1, 2, 0, none, [])), (6, (.iastore, 1, 0, 0, none, [])), (7, (.aload_n 0, 1, 0, 0, none, []))]),
  (17, [(8, (.getfield 13, 3, 7, 1, some (xA none), [])), (11, (.iload_n 1, 1, 1, 0, none, [])), (12, (.iload_n 3, 1, 3, 0, none, [])), (13, (.iastore, 1, 0, 0, none, [])), (14, (.iconst 0, 1, 0, 0, some (xI 0), [])), (15, (.istore 4, 2, 4, 0, none, []))]),
  (28, [(17, (.iload 4, 2, 4, 0, none, [true, true, true, false, true])), (19, (.bipush 24, 2, 0, 0, some (xI 24), [])), (21, (.if_icmp .ge 34, 3, 55, 0, none, [])), (24, (.aload_n 0, 1, 0, 0, none, [])), (25, (.bipush 24, 2, 0, 0, some (xI 24), [])), (27, (.iload_n 1, 1, 1, 0, none, []))]),
  (38, [(28, (.imul, 1, 0, 0, none, [])), (29, (.iload 4, 2, 4, 0, none, [])), (31, (.iadd, 1, 0, 0, none, [])), (32, (.iload_n 2, 1, 2, 0, none, [])), (33, (.bipush 8, 2, 0, 0, some (xI 8), [])), (35, (.if_icmp .ge 7, 3, 42, 0, none, []))]),
  (49, [(38, (.iload_n 2, 1, 2, 0, none, [])), (39, (.goto 5, 3, 44, 0, none, [])), (42, (.bipush 11, 2, 0, 0, some (xI 11), [])), (44, (.lconst 0, 1, 0, 0, some (xJ 0), [])), (45, (.dconst 0, 1, 0, 0, some (xD 0), [])), (46, (.invokevirtual 98, 3, 94, 117, none, []))]),
  (56, [(49, (.iinc 4 1, 3, 4, 0, some (xI (1)), [])), (52, (.goto (-35), 3, 17, 0, none, [])), (55, (.return_, 1, 0, 0, none, []))])]
def xc_94 : List (Nat × List (Nat × xEn)) := [(6, [(0, (.aload_n 0, 1, 0, 0, none, [])), (1, (.getfield 16, 3, 7, 2, some (xA none), [])), (4, (.iload_n 1, 1, 1, 0, none, [])), (5, (.iload_n 2, 1, 2, 0, none, []))]),
  (12, [(6, (.iastore, 1, 0, 0, none, [])), (7, (.aload_n 0, 1, 0, 0, none, [])), (8, (.getfield 19, 3, 7, 3, some (xA none), [])), (11, (.iload_n 1, 1, 1, 0, none, []))]),
  (18, [(12, (.lload_n 3, 1, 3, 0, none, [])), (13, (.lastore, 1, 0, 0, none, [])), (14, (.aload_n 0, 1, 0, 0, none, [])), (15, (.getfield 23, 3, 7, 4, some (xA none), []))]),
  (23, [(18, (.iload_n 1, 1, 1, 0, none, [])), (19, (.dload 5, 2, 5, 0, none, [])), (21, (.dastore, 1, 0, 0, none, [])), (22, (.return_, 1, 0, 0, none, []))])]
def xc_95 : List (Nat × List (Nat × xEn)) := [(6, [(0, (.aload_n 0, 1, 0, 0, none, [])), (1, (.iload_n 2, 1, 2, 0, none, [])), (2, (.aload_n 0, 1, 0, 0, none, [])), (3, (.getfield 16, 3, 7, 2, some (xA none), []))]),
  (12, [(6, (.iload_n 1, 1, 1, 0, none, [])), (7, (.iaload, 1, 0, 0, none, [])), (8, (.aload_n 0, 1, 0, 0, none, [])), (9, (.getfield 19, 3, 7, 3, some (xA none), []))]),
  (18, [(12, (.iload_n 1, 1, 1, 0, none, [])), (13, (.laload, 1, 0, 0, none, [])), (14, (.aload_n 0, 1, 0, 0, none, [])), (15, (.getfield 23, 3, 7, 4, some (xA none), []))]),
  (24, [(18, (.iload_n 1, 1, 1, 0, none, [])), (19, (.daload, 1, 0, 0, none, [])), (20, (.invokevirtual 98, 3, 94, 117, none, [])), (23, (.return_, 1, 0, 0, none, []))])]
def xc_96 : List (Nat × List (Nat × xEn)) := [(13, [(0, (.aload_n 0, 1, 0, 0, none, [])), (1, (.iload_n 1, 1, 1, 0, none, [])), (2, (.ifCond .ne 9, 3, 11, 0, none, [])), (5, (.lload_n 2, 1, 2, 0, none, [])), (6, (.lconst 1, 1, 0, 0, some (xJ 1), [])), (7, (.land, 1, 0, 0, none, [])), (8, (.goto 51, 3, 59, 0, none, [])), (11, (.iload_n 1, 1, 1, 0, none, [])), (12, (.iconst 1, 1, 0, 0, some (xI 1), []))]),
  (28, [(13, (.if_icmp .ne 10, 3, 23, 0, none, [])), (16, (.lload_n 2, 1, 2, 0, none, [])), (17, (.l2i, 1, 0, 0, none, [])), (18, (.i2b, 1, 0, 0, none, [])), (19, (.i2l, 1, 0, 0, none, [])), (20, (.goto 39, 3, 59, 0, none, [])), (23, (.iload_n 1, 1, 1, 0, none, [])), (24, (.iconst 2, 1, 0, 0, some (xI 2), [])), (25, (.if_icmp .ne 10, 3, 35, 0, none, []))]),
  (41, [(28, (.lload_n 2, 1, 2, 0, none, [])), (29, (.l2i, 1, 0, 0, none, [])), (30, (.i2c, 1, 0, 0, none, [])), (31, (.i2l, 1, 0, 0, none, [])), (32, (.goto 27, 3, 59, 0, none, [])), (35, (.iload_n 1, 1, 1, 0, none, [])), (36, (.iconst 3, 1, 0, 0, some (xI 3), [])), (37, (.if_icmp .ne 10, 3, 47, 0, none, [])), (40, (.lload_n 2, 1, 2, 0, none, []))]),
  (54, [(41, (.l2i, 1, 0, 0, none, [])), (42, (.i2s, 1, 0, 0, none, [])), (43, (.i2l, 1, 0, 0, none, [])), (44, (.goto 15, 3, 59, 0, none, [])), (47, (.iload_n 1, 1, 1, 0, none, [])), (48, (.iconst 4, 1, 0, 0, some (xI 4), [])), (49, (.if_icmp .ne 9, 3, 58, 0, none, [])), (52, (.lload_n 2, 1, 2, 0, none, [])), (53, (.l2i, 1, 0, 0, none, []))]),
  (70, [(54, (.i2l, 1, 0, 0, none, [])), (55, (.goto 4, 3, 59, 0, none, [])), (58, (.lload_n 2, 1, 2, 0, none, [])), (59, (.putfield 102, 3, 7, 19, some (xJ 0), [])), (62, (.aload_n 0, 1, 0, 0, none, [])), (63, (.dconst 0, 1, 0, 0, some (xD 0), [])), (64, (.putfield 106, 3, 7, 20, some (xD 0), [])), (67, (.iload_n 1, 1, 1, 0, none, [])), (68, (.bipush 6, 2, 0, 0, some (xI 6), []))]),
  (85, [(70, (.if_icmp .ne 22, 3, 92, 0, none, [])), (73, (.aload_n 0, 1, 0, 0, none, [])), (74, (.lload_n 2, 1, 2, 0, none, [])), (75, (.l2f, 1, 0, 0, none, [])), (76, (.f2d, 1, 0, 0, none, [])), (77, (.putfield 106, 3, 7, 20, some (xD 0), [])), (80, (.aload_n 0, 1, 0, 0, none, [])), (81, (.dup, 1, 0, 0, none, [])), (82, (.getfield 106, 3, 7, 20, some (xD 0), []))]),
  (101, [(85, (.ldc2_w 110, 3, 0, 0, some (xD 4620693217682128896), [])), (88, (.ddiv, 1, 0, 0, none, [])), (89, (.putfield 106, 3, 7, 20, some (xD 0), [])), (92, (.iload_n 1, 1, 1, 0, none, [])), (93, (.bipush 7, 2, 0, 0, some (xI 7), [])), (95, (.if_icmp .ne 13, 3, 108, 0, none, [])), (98, (.aload_n 0, 1, 0, 0, none, [])), (99, (.lload_n 2, 1, 2, 0, none, [])), (100, (.l2d, 1, 0, 0, none, []))]),
  (118, [(101, (.ldc2_w 110, 3, 0, 0, some (xD 4620693217682128896), [])), (104, (.ddiv, 1, 0, 0, none, [])), (105, (.putfield 106, 3, 7, 20, some (xD 0), [])), (108, (.iload_n 1, 1, 1, 0, none, [])), (109, (.iconst 5, 1, 0, 0, some (xI 5), [])), (110, (.if_icmp .le 8, 3, 118, 0, none, [])), (113, (.aload_n 0, 1, 0, 0, none, [])), (114, (.lconst 0, 1, 0, 0, some (xJ 0), [])), (115, (.putfield 102, 3, 7, 19, some (xJ 0), []))]),
  (119, [(118, (.return_, 1, 0, 0, none, []))])]
def xc_97 : List (Nat × List (Nat × xEn)) := [(7, [(0, (.iload_n 0, 1, 0, 0, none, [])), (1, (.iload_n 1, 1, 1, 0, none, [])), (2, (.if_icmp .ne 5, 3, 7, 0, none, [])), (5, (.iconst 1, 1, 0, 0, some (xI 1), [])), (6, (.ireturn, 1, 0, 1, none, []))]),
  (16, [(7, (.iload_n 0, 1, 0, 0, none, [])), (8, (.ifCond .eq 13, 3, 21, 0, none, [])), (11, (.iload_n 1, 1, 1, 0, none, [])), (12, (.iconst 3, 1, 0, 0, some (xI 3), [])), (13, (.if_icmp .lt 8, 3, 21, 0, none, []))]),
  (23, [(16, (.iload_n 0, 1, 0, 0, none, [])), (17, (.iload_n 1, 1, 1, 0, none, [])), (18, (.if_icmp .le 5, 3, 23, 0, none, [])), (21, (.iconst 0, 1, 0, 0, some (xI 0), [])), (22, (.ireturn, 1, 0, 1, none, []))]),
  (30, [(23, (.iload_n 0, 1, 0, 0, none, [])), (24, (.iconst 2, 1, 0, 0, some (xI 2), [])), (25, (.if_icmp .ne 8, 3, 33, 0, none, [])), (28, (.iload_n 1, 1, 1, 0, none, [])), (29, (.iconst 3, 1, 0, 0, some (xI 3), []))]),
  (39, [(30, (.if_icmp .eq 7, 3, 37, 0, none, [])), (33, (.iconst 1, 1, 0, 0, some (xI 1), [])), (34, (.goto 4, 3, 38, 0, none, [])), (37, (.iconst 0, 1, 0, 0, some (xI 0), [])), (38, (.ireturn, 1, 0, 1, none, []))])]
def xc_98 : List (Nat × List (Nat × xEn)) := [(7, [(0, (.iload_n 1, 1, 1, 0, none, [])), (1, (.bipush 6, 2, 0, 0, some (xI 6), [])), (3, (.if_icmp .ge 5, 3, 8, 0, none, [])), (6, (.dconst 0, 1, 0, 0, some (xD 0), []))]),
  (13, [(7, (.dreturn, 1, 0, 0, none, [])), (8, (.iload_n 0, 1, 0, 0, none, [])), (9, (.iconst 5, 1, 0, 0, some (xI 5), [])), (10, (.if_icmp .le 6, 3, 16, 0, none, []))]),
  (19, [(13, (.dload 4, 2, 4, 0, none, [])), (15, (.dreturn, 1, 0, 0, none, [])), (16, (.iload_n 1, 1, 1, 0, none, [])), (17, (.bipush 6, 2, 0, 0, some (xI 6), []))]),
  (25, [(19, (.if_icmp .ne 9, 3, 28, 0, none, [])), (22, (.lload_n 2, 1, 2, 0, none, [])), (23, (.l2f, 1, 0, 0, none, [])), (24, (.f2d, 1, 0, 0, none, []))]),
  (31, [(25, (.goto 5, 3, 30, 0, none, [])), (28, (.lload_n 2, 1, 2, 0, none, [])), (29, (.l2d, 1, 0, 0, none, [])), (30, (.dreturn, 1, 0, 0, none, []))])]
def xc_99 : List (Nat × List (Nat × xEn)) := [(10, [(0, (.dload_n 0, 1, 0, 0, none, [])), (1, (.dconst 0, 1, 0, 0, some (xD 0), [])), (2, (.dcmp .l, 1, 0, 0, none, [])), (3, (.ifCond .ne 5, 3, 8, 0, none, [])), (6, (.iconst 0, 1, 0, 0, some (xI 0), [])), (7, (.ireturn, 1, 0, 0, none, [])), (8, (.dload_n 0, 1, 0, 0, none, [])), (9, (.dconst 0, 1, 0, 0, some (xD 0), []))]),
  (24, [(10, (.dcmp .g, 1, 0, 0, none, [])), (11, (.ifCond .ge 8, 3, 19, 0, none, [])), (14, (.dload_n 0, 1, 0, 0, none, [])), (15, (.dneg, 1, 0, 0, none, [])), (16, (.goto 4, 3, 20, 0, none, [])), (19, (.dload_n 0, 1, 0, 0, none, [])), (20, (.dstore_n 2, 1, 2, 0, none, [])), (21, (.sipush 150, 3, 0, 0, some (xI 150), []))]),
  (41, [(24, (.istore 4, 2, 4, 0, none, [])), (26, (.iconst 0, 1, 0, 0, some (xI 0), [])), (27, (.istore 5, 2, 5, 0, none, [])), (29, (.iload 5, 2, 5, 0, none, [true, false, true, false, true, true])), (31, (.sipush 200, 3, 0, 0, some (xI 200), [])), (34, (.if_icmp .ge 26, 3, 60, 0, none, [])), (37, (.dload_n 2, 1, 2, 0, none, [])), (38, (.ldc2_w 112, 3, 0, 0, some (xD 4715268809856909312), []))]),
  (57, [(41, (.dcmp .l, 1, 0, 0, none, [])), (42, (.ifCond .lt 18, 3, 60, 0, none, [])), (45, (.dload_n 2, 1, 2, 0, none, [])), (46, (.ldc2_w 114, 3, 0, 0, some (xD 4611686018427387904), [])), (49, (.ddiv, 1, 0, 0, none, [])), (50, (.dstore_n 2, 1, 2, 0, none, [])), (51, (.iinc 4 1, 3, 4, 0, some (xI (1)), [])), (54, (.iinc 5 1, 3, 5, 0, some (xI (1)), []))]),
  (75, [(57, (.goto (-28), 3, 29, 0, none, [])), (60, (.iconst 0, 1, 0, 0, some (xI 0), [])), (61, (.istore 5, 2, 5, 0, none, [])), (63, (.iload 5, 2, 5, 0, none, [true, false, true, false, true, true])), (65, (.sipush 200, 3, 0, 0, some (xI 200), [])), (68, (.if_icmp .ge 26, 3, 94, 0, none, [])), (71, (.dload_n 2, 1, 2, 0, none, [])), (72, (.ldc2_w 116, 3, 0, 0, some (xD 4710765210229538816), []))]),
  (91, [(75, (.dcmp .g, 1, 0, 0, none, [])), (76, (.ifCond .ge 18, 3, 94, 0, none, [])), (79, (.dload_n 2, 1, 2, 0, none, [])), (80, (.ldc2_w 114, 3, 0, 0, some (xD 4611686018427387904), [])), (83, (.dmul, 1, 0, 0, none, [])), (84, (.dstore_n 2, 1, 2, 0, none, [])), (85, (.iinc 4 (-1), 3, 4, 0, some (xI (-1)), [])), (88, (.iinc 5 1, 3, 5, 0, some (xI (1)), []))]),
  (104, [(91, (.goto (-28), 3, 63, 0, none, [])), (94, (.dload_n 2, 1, 2, 0, none, [])), (95, (.d2i, 1, 0, 0, none, [])), (96, (.ldc 118, 2, 0, 0, some (xI (8388608)), [])), (98, (.isub, 1, 0, 0, none, [])), (99, (.iload 4, 2, 4, 0, none, [])), (101, (.bipush 23, 2, 0, 0, some (xI 23), [])), (103, (.ishl, 1, 0, 0, none, []))]),
  (117, [(104, (.iadd, 1, 0, 0, none, [])), (105, (.istore 5, 2, 5, 0, none, [])), (107, (.dload_n 0, 1, 0, 0, none, [])), (108, (.dconst 0, 1, 0, 0, some (xD 0), [])), (109, (.dcmp .g, 1, 0, 0, none, [])), (110, (.ifCond .ge 11, 3, 121, 0, none, [])), (113, (.iload 5, 2, 5, 0, none, [])), (115, (.ldc 119, 2, 0, 0, some (xI (-2147483648)), []))]),
  (124, [(117, (.ior, 1, 0, 0, none, [])), (118, (.goto 5, 3, 123, 0, none, [])), (121, (.iload 5, 2, 5, 0, none, [])), (123, (.ireturn, 1, 0, 0, none, []))])]
def xc_100 : List (Nat × List (Nat × xEn)) := [(11, [(0, (.dload_n 0, 1, 0, 0, none, [])), (1, (.dconst 0, 1, 0, 0, some (xD 0), [])), (2, (.dcmp .l, 1, 0, 0, none, [])), (3, (.ifCond .ne 5, 3, 8, 0, none, [])), (6, (.lconst 0, 1, 0, 0, some (xJ 0), [])), (7, (.lreturn, 1, 0, 0, none, [])), (8, (.dload_n 0, 1, 0, 0, none, [])), (9, (.dconst 0, 1, 0, 0, some (xD 0), [])), (10, (.dcmp .g, 1, 0, 0, none, []))]),
  (27, [(11, (.ifCond .ge 8, 3, 19, 0, none, [])), (14, (.dload_n 0, 1, 0, 0, none, [])), (15, (.dneg, 1, 0, 0, none, [])), (16, (.goto 4, 3, 20, 0, none, [])), (19, (.dload_n 0, 1, 0, 0, none, [])), (20, (.dstore_n 2, 1, 2, 0, none, [])), (21, (.ldc2_w 120, 3, 0, 0, some (xJ (1075)), [])), (24, (.lstore 4, 2, 4, 0, none, [])), (26, (.iconst 0, 1, 0, 0, some (xI 0), []))]),
  (46, [(27, (.istore 6, 2, 6, 0, none, [])), (29, (.iload 6, 2, 6, 0, none, [true, false, true, false, true, false, true, false])), (31, (.sipush 200, 3, 0, 0, some (xI 200), [])), (34, (.if_icmp .ge 29, 3, 63, 0, none, [])), (37, (.dload_n 2, 1, 2, 0, none, [])), (38, (.ldc2_w 122, 3, 0, 0, some (xD 4845873199050653696), [])), (41, (.dcmp .l, 1, 0, 0, none, [])), (42, (.ifCond .lt 21, 3, 63, 0, none, [])), (45, (.dload_n 2, 1, 2, 0, none, []))]),
  (63, [(46, (.ldc2_w 114, 3, 0, 0, some (xD 4611686018427387904), [])), (49, (.ddiv, 1, 0, 0, none, [])), (50, (.dstore_n 2, 1, 2, 0, none, [])), (51, (.lload 4, 2, 4, 0, none, [])), (53, (.lconst 1, 1, 0, 0, some (xJ 1), [])), (54, (.ladd, 1, 0, 0, none, [])), (55, (.lstore 4, 2, 4, 0, none, [])), (57, (.iinc 6 1, 3, 6, 0, some (xI (1)), [])), (60, (.goto (-31), 3, 29, 0, none, []))]),
  (82, [(63, (.iconst 0, 1, 0, 0, some (xI 0), [])), (64, (.istore 6, 2, 6, 0, none, [])), (66, (.iload 6, 2, 6, 0, none, [true, false, true, false, true, false, true, false])), (68, (.sipush 200, 3, 0, 0, some (xI 200), [])), (71, (.if_icmp .ge 29, 3, 100, 0, none, [])), (74, (.dload_n 2, 1, 2, 0, none, [])), (75, (.ldc2_w 124, 3, 0, 0, some (xD 4841369599423283200), [])), (78, (.dcmp .g, 1, 0, 0, none, [])), (79, (.ifCond .ge 21, 3, 100, 0, none, []))]),
  (97, [(82, (.dload_n 2, 1, 2, 0, none, [])), (83, (.ldc2_w 114, 3, 0, 0, some (xD 4611686018427387904), [])), (86, (.dmul, 1, 0, 0, none, [])), (87, (.dstore_n 2, 1, 2, 0, none, [])), (88, (.lload 4, 2, 4, 0, none, [])), (90, (.lconst 1, 1, 0, 0, some (xJ 1), [])), (91, (.lsub, 1, 0, 0, none, [])), (92, (.lstore 4, 2, 4, 0, none, [])), (94, (.iinc 6 1, 3, 6, 0, some (xI (1)), []))]),
  (112, [(97, (.goto (-31), 3, 66, 0, none, [])), (100, (.dload_n 2, 1, 2, 0, none, [])), (101, (.d2l, 1, 0, 0, none, [])), (102, (.ldc2_w 126, 3, 0, 0, some (xJ (4503599627370496)), [])), (105, (.lsub, 1, 0, 0, none, [])), (106, (.lload 4, 2, 4, 0, none, [])), (108, (.bipush 52, 2, 0, 0, some (xI 52), [])), (110, (.lshl, 1, 0, 0, none, [])), (111, (.ladd, 1, 0, 0, none, []))]),
  (129, [(112, (.lstore 6, 2, 6, 0, none, [])), (114, (.dload_n 0, 1, 0, 0, none, [])), (115, (.dconst 0, 1, 0, 0, some (xD 0), [])), (116, (.dcmp .g, 1, 0, 0, none, [])), (117, (.ifCond .ge 12, 3, 129, 0, none, [])), (120, (.lload 6, 2, 6, 0, none, [])), (122, (.ldc2_w 128, 3, 0, 0, some (xJ (-9223372036854775808)), [])), (125, (.lor, 1, 0, 0, none, [])), (126, (.goto 5, 3, 131, 0, none, []))]),
  (132, [(129, (.lload 6, 2, 6, 0, none, [])), (131, (.lreturn, 1, 0, 0, none, []))])]
def xc_101 : List (Nat × List (Nat × xEn)) := [(7, [(0, (.iload_n 0, 1, 0, 0, none, [])), (1, (.bipush 6, 2, 0, 0, some (xI 6), [])), (3, (.if_icmp .ne 11, 3, 14, 0, none, [])), (6, (.dload_n 3, 1, 3, 0, none, []))]),
  (15, [(7, (.invokestatic 130, 3, 99, 1, some (xI 0), [])), (10, (.i2l, 1, 0, 0, none, [])), (11, (.goto 17, 3, 28, 0, none, [])), (14, (.iload_n 0, 1, 0, 0, none, []))]),
  (24, [(15, (.bipush 7, 2, 0, 0, some (xI 7), [])), (17, (.if_icmp .ne 10, 3, 27, 0, none, [])), (20, (.dload_n 3, 1, 3, 0, none, [])), (21, (.invokestatic 134, 3, 100, 1, some (xJ 0), []))]),
  (29, [(24, (.goto 4, 3, 28, 0, none, [])), (27, (.lload_n 1, 1, 1, 0, none, [])), (28, (.lreturn, 1, 0, 0, none, []))])]
def xc_102 : List (Nat × List (Nat × xEn)) := [(15, [(0, (.iload_n 1, 1, 1, 0, none, [])), (1, (.invokestatic 138, 3, 89, 1, some (xI 0), [])), (4, (.ifCond .ne 5, 3, 9, 0, none, [])), (7, (.iconst (-1), 1, 0, 0, some (xI (-1)), [])), (8, (.ireturn, 1, 0, 0, none, [])), (9, (.iload_n 2, 1, 2, 0, none, [])), (10, (.i2l, 1, 0, 0, none, [])), (11, (.lconst 0, 1, 0, 0, some (xJ 0), [])), (12, (.ldc2_w 92, 3, 0, 0, some (xJ (15)), []))]),
  (33, [(15, (.invokestatic 88, 3, 88, 3, some (xI 0), [])), (18, (.ifCond .eq 39, 3, 57, 0, none, [])), (21, (.iload_n 2, 1, 2, 0, none, [])), (22, (.bipush 13, 2, 0, 0, some (xI 13), [])), (24, (.if_icmp .ge 15, 3, 39, 0, none, [])), (27, (.iload_n 3, 1, 3, 0, none, [])), (28, (.i2l, 1, 0, 0, none, [])), (29, (.lconst 0, 1, 0, 0, some (xJ 0), [])), (30, (.ldc2_w 141, 3, 0, 0, some (xJ (24)), []))]),
  (51, [(33, (.invokestatic 88, 3, 88, 3, some (xI 0), [])), (36, (.ifCond .eq 21, 3, 57, 0, none, [])), (39, (.iload_n 2, 1, 2, 0, none, [])), (40, (.bipush 14, 2, 0, 0, some (xI 14), [])), (42, (.if_icmp .ne 18, 3, 60, 0, none, [])), (45, (.iload_n 3, 1, 3, 0, none, [])), (46, (.i2l, 1, 0, 0, none, [])), (47, (.lconst 0, 1, 0, 0, some (xJ 0), [])), (48, (.ldc2_w 143, 3, 0, 0, some (xJ (99)), []))]),
  (70, [(51, (.invokestatic 88, 3, 88, 3, some (xI 0), [])), (54, (.ifCond .ne 6, 3, 60, 0, none, [])), (57, (.bipush (-2), 2, 0, 0, some (xI (-2)), [])), (59, (.ireturn, 1, 0, 0, none, [])), (60, (.iload_n 2, 1, 2, 0, none, [])), (61, (.bipush 13, 2, 0, 0, some (xI 13), [])), (63, (.if_icmp .ne 15, 3, 78, 0, none, [])), (66, (.aload_n 0, 1, 0, 0, none, [])), (67, (.getfield 145, 3, 7, 13, some (xI 0), []))]),
  (87, [(70, (.bipush 60, 2, 0, 0, some (xI 60), [])), (72, (.if_icmp .ne 6, 3, 78, 0, none, [])), (75, (.bipush (-4), 2, 0, 0, some (xI (-4)), [])), (77, (.ireturn, 1, 0, 0, none, [])), (78, (.iload_n 2, 1, 2, 0, none, [])), (79, (.bipush 13, 2, 0, 0, some (xI 13), [])), (81, (.if_icmp .ge 30, 3, 111, 0, none, [])), (84, (.aload_n 0, 1, 0, 0, none, [])), (85, (.bipush (-6), 2, 0, 0, some (xI (-6)), []))]),
  (104, [(87, (.invokevirtual 148, 3, 92, 114, some (xI 0), [])), (90, (.istore 4, 2, 4, 0, none, [])), (92, (.aload_n 0, 1, 0, 0, none, [])), (93, (.iload 4, 2, 4, 0, none, [])), (95, (.iload_n 2, 1, 2, 0, none, [])), (96, (.iload_n 3, 1, 3, 0, none, [])), (97, (.invokevirtual 152, 3, 93, 116, none, [])), (100, (.aload_n 0, 1, 0, 0, none, [])), (101, (.getfield 27, 3, 7, 5, some (xA none), []))]),
  (119, [(104, (.iload_n 1, 1, 1, 0, none, [])), (105, (.iload 4, 2, 4, 0, none, [])), (107, (.iastore, 1, 0, 0, none, [])), (108, (.goto 42, 3, 150, 0, none, [])), (111, (.aload_n 0, 1, 0, 0, none, [])), (112, (.getfield 27, 3, 7, 5, some (xA none), [])), (115, (.iload_n 1, 1, 1, 0, none, [])), (116, (.iload_n 2, 1, 2, 0, none, [])), (117, (.bipush 13, 2, 0, 0, some (xI 13), []))]),
  (136, [(119, (.if_icmp .ne 16, 3, 135, 0, none, [])), (122, (.sipush 1000, 3, 0, 0, some (xI 1000), [])), (125, (.aload_n 0, 1, 0, 0, none, [])), (126, (.iload_n 3, 1, 3, 0, none, [])), (127, (.iconst 0, 1, 0, 0, some (xI 0), [])), (128, (.invokevirtual 156, 3, 103, 115, some (xI 0), [])), (131, (.iadd, 1, 0, 0, none, [])), (132, (.goto 17, 3, 149, 0, none, [])), (135, (.iload_n 2, 1, 2, 0, none, []))]),
  (151, [(136, (.bipush 14, 2, 0, 0, some (xI 14), [])), (138, (.if_icmp .ne 10, 3, 148, 0, none, [])), (141, (.bipush 100, 2, 0, 0, some (xI 100), [])), (143, (.iload_n 3, 1, 3, 0, none, [])), (144, (.iadd, 1, 0, 0, none, [])), (145, (.goto 4, 3, 149, 0, none, [])), (148, (.iconst (-1), 1, 0, 0, some (xI (-1)), [])), (149, (.iastore, 1, 0, 0, none, [])), (150, (.iconst 0, 1, 0, 0, some (xI 0), []))]),
  (152, [(151, (.ireturn, 1, 0, 0, none, []))])]
def xc_103 : List (Nat × List (Nat × xEn)) := [(7, [(0, (.aload_n 0, 1, 0, 0, none, [])), (1, (.dup, 1, 0, 0, none, [])), (2, (.getfield 145, 3, 7, 13, some (xI 0), [])), (5, (.iconst 1, 1, 0, 0, some (xI 1), [])), (6, (.iadd, 1, 0, 0, none, []))]),
  (18, [(7, (.putfield 145, 3, 7, 13, some (xI 0), [])), (10, (.aload_n 0, 1, 0, 0, none, [])), (11, (.getfield 37, 3, 7, 11, some (xA none), [])), (14, (.aload_n 0, 1, 0, 0, none, [])), (15, (.getfield 145, 3, 7, 13, some (xI 0), []))]),
  (25, [(18, (.iload_n 1, 1, 1, 0, none, [])), (19, (.iastore, 1, 0, 0, none, [])), (20, (.aload_n 0, 1, 0, 0, none, [])), (21, (.getfield 40, 3, 7, 12, some (xA none), [])), (24, (.aload_n 0, 1, 0, 0, none, []))]),
  (34, [(25, (.getfield 145, 3, 7, 13, some (xI 0), [])), (28, (.iload_n 2, 1, 2, 0, none, [])), (29, (.bastore, 1, 0, 0, none, [])), (30, (.aload_n 0, 1, 0, 0, none, [])), (31, (.getfield 145, 3, 7, 13, some (xI 0), []))]),
  (35, [(34, (.ireturn, 1, 0, 0, none, []))])]
def xc_104 : List (Nat × List (Nat × xEn)) := [(17, [(0, (.iload_n 1, 1, 1, 0, none, [])), (1, (.invokestatic 138, 3, 89, 1, some (xI 0), [])), (4, (.ifCond .eq 10, 3, 14, 0, none, [])), (7, (.iload_n 2, 1, 2, 0, none, [])), (8, (.invokestatic 138, 3, 89, 1, some (xI 0), [])), (11, (.ifCond .ne 5, 3, 16, 0, none, [])), (14, (.iconst (-1), 1, 0, 0, some (xI (-1)), [])), (15, (.ireturn, 1, 0, 0, none, [])), (16, (.iload_n 3, 1, 3, 0, none, []))]),
  (33, [(17, (.i2l, 1, 0, 0, none, [])), (18, (.lconst 0, 1, 0, 0, some (xJ 0), [])), (19, (.lconst 1, 1, 0, 0, some (xJ 1), [])), (20, (.invokestatic 88, 3, 88, 3, some (xI 0), [])), (23, (.ifCond .ne 6, 3, 29, 0, none, [])), (26, (.bipush (-2), 2, 0, 0, some (xI (-2)), [])), (28, (.ireturn, 1, 0, 0, none, [])), (29, (.iload_n 3, 1, 3, 0, none, [])), (30, (.ifCond .ne 17, 3, 47, 0, none, []))]),
  (46, [(33, (.aload_n 0, 1, 0, 0, none, [])), (34, (.getfield 27, 3, 7, 5, some (xA none), [])), (37, (.iload_n 2, 1, 2, 0, none, [])), (38, (.aload_n 0, 1, 0, 0, none, [])), (39, (.getfield 27, 3, 7, 5, some (xA none), [])), (42, (.iload_n 1, 1, 1, 0, none, [])), (43, (.iaload, 1, 0, 0, none, [])), (44, (.iastore, 1, 0, 0, none, [])), (45, (.iconst 0, 1, 0, 0, some (xI 0), []))]),
  (61, [(46, (.ireturn, 1, 0, 0, none, [])), (47, (.aload_n 0, 1, 0, 0, none, [])), (48, (.iload_n 1, 1, 1, 0, none, [])), (49, (.invokevirtual 160, 3, 91, 114, some (xI 0), [])), (52, (.ifCond .eq 9, 3, 61, 0, none, [])), (55, (.aload_n 0, 1, 0, 0, none, [])), (56, (.iload_n 1, 1, 1, 0, none, [])), (57, (.invokevirtual 160, 3, 91, 114, some (xI 0), [])), (60, (.ireturn, 1, 0, 0, none, []))]),
  (77, [(61, (.aload_n 0, 1, 0, 0, none, [])), (62, (.getfield 27, 3, 7, 5, some (xA none), [])), (65, (.iload_n 1, 1, 1, 0, none, [])), (66, (.iaload, 1, 0, 0, none, [])), (67, (.istore 4, 2, 4, 0, none, [])), (69, (.aload_n 0, 1, 0, 0, none, [])), (70, (.bipush (-6), 2, 0, 0, some (xI (-6)), [])), (72, (.invokevirtual 148, 3, 92, 114, some (xI 0), [])), (75, (.istore 5, 2, 5, 0, none, []))]),
  (93, [(77, (.aload_n 0, 1, 0, 0, none, [])), (78, (.iload 5, 2, 5, 0, none, [])), (80, (.aload_n 0, 1, 0, 0, none, [])), (81, (.getfield 7, 3, 7, 0, some (xA none), [])), (84, (.iload 4, 2, 4, 0, none, [])), (86, (.iaload, 1, 0, 0, none, [])), (87, (.aload_n 0, 1, 0, 0, none, [])), (88, (.getfield 13, 3, 7, 1, some (xA none), [])), (91, (.iload 4, 2, 4, 0, none, []))]),
  (109, [(93, (.iaload, 1, 0, 0, none, [])), (94, (.invokevirtual 152, 3, 93, 116, none, [])), (97, (.iconst 0, 1, 0, 0, some (xI 0), [])), (98, (.istore 6, 2, 6, 0, none, [])), (100, (.iload 6, 2, 6, 0, none, [true, false, true, false, true, true, true])), (102, (.aload_n 0, 1, 0, 0, none, [])), (103, (.getfield 13, 3, 7, 1, some (xA none), [])), (106, (.iload 4, 2, 4, 0, none, [])), (108, (.iaload, 1, 0, 0, none, []))]),
  (125, [(109, (.if_icmp .ge 29, 3, 138, 0, none, [])), (112, (.aload_n 0, 1, 0, 0, none, [])), (113, (.bipush 24, 2, 0, 0, some (xI 24), [])), (115, (.iload 4, 2, 4, 0, none, [])), (117, (.imul, 1, 0, 0, none, [])), (118, (.iload 6, 2, 6, 0, none, [])), (120, (.iadd, 1, 0, 0, none, [])), (121, (.bipush 24, 2, 0, 0, some (xI 24), [])), (123, (.iload 5, 2, 5, 0, none, []))]),
  (143, [(125, (.imul, 1, 0, 0, none, [])), (126, (.iload 6, 2, 6, 0, none, [])), (128, (.iadd, 1, 0, 0, none, [])), (129, (.invokevirtual 163, 3, 95, 115, none, [])), (132, (.iinc 6 1, 3, 6, 0, some (xI (1)), [])), (135, (.goto (-35), 3, 100, 0, none, [])), (138, (.aload_n 0, 1, 0, 0, none, [])), (139, (.getfield 27, 3, 7, 5, some (xA none), [])), (142, (.iload_n 2, 1, 2, 0, none, []))]),
  (148, [(143, (.iload 5, 2, 5, 0, none, [])), (145, (.iastore, 1, 0, 0, none, [])), (146, (.iconst 0, 1, 0, 0, some (xI 0), [])), (147, (.ireturn, 1, 0, 0, none, []))])]
def xc_105 : List (Nat × List (Nat × xEn)) := [(11, [(0, (.iload_n 1, 1, 1, 0, none, [])), (1, (.invokestatic 138, 3, 89, 1, some (xI 0), [])), (4, (.ifCond .eq 10, 3, 14, 0, none, [])), (7, (.iload_n 2, 1, 2, 0, none, [])), (8, (.invokestatic 138, 3, 89, 1, some (xI 0), []))]),
  (18, [(11, (.ifCond .ne 5, 3, 16, 0, none, [])), (14, (.iconst (-1), 1, 0, 0, some (xI (-1)), [])), (15, (.ireturn, 1, 0, 0, none, [])), (16, (.aload_n 0, 1, 0, 0, none, [])), (17, (.iload_n 1, 1, 1, 0, none, []))]),
  (29, [(18, (.invokevirtual 94, 3, 90, 114, some (xI 0), [])), (21, (.ifCond .eq 22, 3, 43, 0, none, [])), (24, (.aload_n 0, 1, 0, 0, none, [])), (25, (.getfield 27, 3, 7, 5, some (xA none), [])), (28, (.iload_n 1, 1, 1, 0, none, []))]),
  (36, [(29, (.iaload, 1, 0, 0, none, [])), (30, (.aload_n 0, 1, 0, 0, none, [])), (31, (.getfield 27, 3, 7, 5, some (xA none), [])), (34, (.iload_n 2, 1, 2, 0, none, [])), (35, (.iaload, 1, 0, 0, none, []))]),
  (45, [(36, (.if_icmp .ne 7, 3, 43, 0, none, [])), (39, (.iconst 1, 1, 0, 0, some (xI 1), [])), (40, (.goto 4, 3, 44, 0, none, [])), (43, (.iconst 0, 1, 0, 0, some (xI 0), [])), (44, (.ireturn, 1, 0, 0, none, []))])]
def xc_106 : List (Nat × List (Nat × xEn)) := [(7, [(0, (.aload_n 0, 1, 0, 0, none, [])), (1, (.getfield 44, 3, 7, 14, some (xA none), [])), (4, (.bipush 6, 2, 0, 0, some (xI 6), [])), (6, (.iload_n 1, 1, 1, 0, none, []))]),
  (11, [(7, (.imul, 1, 0, 0, none, [])), (8, (.iload_n 2, 1, 2, 0, none, [])), (9, (.iadd, 1, 0, 0, none, [])), (10, (.dup2, 1, 0, 0, none, []))]),
  (15, [(11, (.iaload, 1, 0, 0, none, [])), (12, (.iconst 1, 1, 0, 0, some (xI 1), [])), (13, (.iadd, 1, 0, 0, none, [])), (14, (.iastore, 1, 0, 0, none, []))]),
  (17, [(15, (.iload_n 2, 1, 2, 0, none, [])), (16, (.ireturn, 1, 0, 0, none, []))])]
def xc_107 : List (Nat × List (Nat × xEn)) := [(9, [(0, (.iload_n 1, 1, 1, 0, none, [])), (1, (.invokestatic 138, 3, 89, 1, some (xI 0), [])), (4, (.ifCond .ne 5, 3, 9, 0, none, [])), (7, (.iconst (-1), 1, 0, 0, some (xI (-1)), [])), (8, (.ireturn, 1, 0, 0, none, []))]),
  (17, [(9, (.aload_n 0, 1, 0, 0, none, [])), (10, (.bipush 18, 2, 0, 0, some (xI 18), [])), (12, (.aload_n 0, 1, 0, 0, none, [])), (13, (.iload_n 1, 1, 1, 0, none, [])), (14, (.invokevirtual 160, 3, 91, 114, some (xI 0), []))]),
  (26, [(17, (.invokevirtual 167, 3, 106, 115, some (xI 0), [])), (20, (.istore_n 2, 1, 2, 0, none, [])), (21, (.iload_n 2, 1, 2, 0, none, [])), (22, (.ifCond .ne 17, 3, 39, 0, none, [])), (25, (.aload_n 0, 1, 0, 0, none, []))]),
  (35, [(26, (.getfield 13, 3, 7, 1, some (xA none), [])), (29, (.aload_n 0, 1, 0, 0, none, [])), (30, (.getfield 27, 3, 7, 5, some (xA none), [])), (33, (.iload_n 1, 1, 1, 0, none, [])), (34, (.iaload, 1, 0, 0, none, []))]),
  (43, [(35, (.iaload, 1, 0, 0, none, [])), (36, (.goto 7, 3, 43, 0, none, [])), (39, (.bipush (-10), 2, 0, 0, some (xI (-10)), [])), (41, (.iload_n 2, 1, 2, 0, none, [])), (42, (.isub, 1, 0, 0, none, []))]),
  (44, [(43, (.ireturn, 1, 0, 0, none, []))])]
def xc_108 : List (Nat × List (Nat × xEn)) := [(15, [(0, (.aload_n 0, 1, 0, 0, none, [])), (1, (.iload_n 1, 1, 1, 0, none, [])), (2, (.invokevirtual 160, 3, 91, 114, some (xI 0), [])), (5, (.ifCond .eq 9, 3, 14, 0, none, [])), (8, (.aload_n 0, 1, 0, 0, none, [])), (9, (.iload_n 1, 1, 1, 0, none, [])), (10, (.invokevirtual 160, 3, 91, 114, some (xI 0), [])), (13, (.ireturn, 1, 0, 0, none, [])), (14, (.aload_n 0, 1, 0, 0, none, []))]),
  (31, [(15, (.getfield 27, 3, 7, 5, some (xA none), [])), (18, (.iload_n 1, 1, 1, 0, none, [])), (19, (.iaload, 1, 0, 0, none, [])), (20, (.istore 4, 2, 4, 0, none, [])), (22, (.aload_n 0, 1, 0, 0, none, [])), (23, (.getfield 7, 3, 7, 0, some (xA none), [])), (26, (.iload 4, 2, 4, 0, none, [])), (28, (.iaload, 1, 0, 0, none, [])), (29, (.bipush 7, 2, 0, 0, some (xI 7), []))]),
  (45, [(31, (.if_icmp .le 5, 3, 36, 0, none, [])), (34, (.iconst 3, 1, 0, 0, some (xI 3), [])), (35, (.ireturn, 1, 0, 0, none, [])), (36, (.iload_n 2, 1, 2, 0, none, [])), (37, (.i2l, 1, 0, 0, none, [])), (38, (.lconst 0, 1, 0, 0, some (xJ 0), [])), (39, (.aload_n 0, 1, 0, 0, none, [])), (40, (.getfield 13, 3, 7, 1, some (xA none), [])), (43, (.iload 4, 2, 4, 0, none, []))]),
  (58, [(45, (.iaload, 1, 0, 0, none, [])), (46, (.iconst 1, 1, 0, 0, some (xI 1), [])), (47, (.isub, 1, 0, 0, none, [])), (48, (.i2l, 1, 0, 0, none, [])), (49, (.invokestatic 88, 3, 88, 3, some (xI 0), [])), (52, (.ifCond .ne 5, 3, 57, 0, none, [])), (55, (.iconst 4, 1, 0, 0, some (xI 4), [])), (56, (.ireturn, 1, 0, 0, none, [])), (57, (.aload_n 0, 1, 0, 0, none, []))]),
  (75, [(58, (.getfield 7, 3, 7, 0, some (xA none), [])), (61, (.iload 4, 2, 4, 0, none, [])), (63, (.iaload, 1, 0, 0, none, [])), (64, (.iload_n 3, 1, 3, 0, none, [])), (65, (.invokestatic 171, 3, 97, 2, some (xI 0), [])), (68, (.ifCond .ne 5, 3, 73, 0, none, [])), (71, (.iconst 5, 1, 0, 0, some (xI 5), [])), (72, (.ireturn, 1, 0, 0, none, [])), (73, (.bipush 24, 2, 0, 0, some (xI 24), []))]),
  (89, [(75, (.iload 4, 2, 4, 0, none, [])), (77, (.imul, 1, 0, 0, none, [])), (78, (.iload_n 2, 1, 2, 0, none, [])), (79, (.iadd, 1, 0, 0, none, [])), (80, (.istore 5, 2, 5, 0, none, [])), (82, (.aload_n 0, 1, 0, 0, none, [])), (83, (.iload_n 3, 1, 3, 0, none, [])), (84, (.bipush 6, 2, 0, 0, some (xI 6), [])), (86, (.if_icmp .ge 13, 3, 99, 0, none, []))]),
  (105, [(89, (.aload_n 0, 1, 0, 0, none, [])), (90, (.getfield 19, 3, 7, 3, some (xA none), [])), (93, (.iload 5, 2, 5, 0, none, [])), (95, (.laload, 1, 0, 0, none, [])), (96, (.goto 4, 3, 100, 0, none, [])), (99, (.lconst 0, 1, 0, 0, some (xJ 0), [])), (100, (.putfield 175, 3, 7, 21, some (xJ 0), [])), (103, (.aload_n 0, 1, 0, 0, none, [])), (104, (.aload_n 0, 1, 0, 0, none, []))]),
  (120, [(105, (.getfield 7, 3, 7, 0, some (xA none), [])), (108, (.iload 4, 2, 4, 0, none, [])), (110, (.iaload, 1, 0, 0, none, [])), (111, (.iload_n 3, 1, 3, 0, none, [])), (112, (.aload_n 0, 1, 0, 0, none, [])), (113, (.getfield 19, 3, 7, 3, some (xA none), [])), (116, (.iload 5, 2, 5, 0, none, [])), (118, (.laload, 1, 0, 0, none, [])), (119, (.aload_n 0, 1, 0, 0, none, []))]),
  (138, [(120, (.getfield 23, 3, 7, 4, some (xA none), [])), (123, (.iload 5, 2, 5, 0, none, [])), (125, (.daload, 1, 0, 0, none, [])), (126, (.invokestatic 178, 3, 98, 4, some (xD 0), [])), (129, (.putfield 182, 3, 7, 22, some (xD 0), [])), (132, (.aload_n 0, 1, 0, 0, none, [])), (133, (.iload_n 3, 1, 3, 0, none, [])), (134, (.aload_n 0, 1, 0, 0, none, [])), (135, (.getfield 175, 3, 7, 21, some (xJ 0), []))]),
  (150, [(138, (.aload_n 0, 1, 0, 0, none, [])), (139, (.getfield 182, 3, 7, 22, some (xD 0), [])), (142, (.invokestatic 185, 3, 101, 3, some (xJ 0), [])), (145, (.putfield 189, 3, 7, 10, some (xJ 0), [])), (148, (.iconst 0, 1, 0, 0, some (xI 0), [])), (149, (.ireturn, 1, 0, 0, none, []))])]
def xc_109 : List (Nat × List (Nat × xEn)) := [(9, [(0, (.iload_n 1, 1, 1, 0, none, [])), (1, (.invokestatic 138, 3, 89, 1, some (xI 0), [])), (4, (.ifCond .ne 5, 3, 9, 0, none, [])), (7, (.iconst (-1), 1, 0, 0, some (xI (-1)), [])), (8, (.ireturn, 1, 0, 0, none, []))]),
  (18, [(9, (.iload_n 3, 1, 3, 0, none, [])), (10, (.i2l, 1, 0, 0, none, [])), (11, (.lconst 0, 1, 0, 0, some (xJ 0), [])), (12, (.ldc2_w 192, 3, 0, 0, some (xJ (7)), [])), (15, (.invokestatic 88, 3, 88, 3, some (xI 0), []))]),
  (25, [(18, (.ifCond .eq 18, 3, 36, 0, none, [])), (21, (.aload_n 0, 1, 0, 0, none, [])), (22, (.iload_n 3, 1, 3, 0, none, [])), (23, (.aload_n 0, 1, 0, 0, none, [])), (24, (.iload_n 1, 1, 1, 0, none, []))]),
  (36, [(25, (.iload_n 2, 1, 2, 0, none, [])), (26, (.iload_n 3, 1, 3, 0, none, [])), (27, (.invokevirtual 194, 3, 108, 116, some (xI 0), [])), (30, (.invokevirtual 167, 3, 106, 115, some (xI 0), [])), (33, (.goto 5, 3, 38, 0, none, []))]),
  (39, [(36, (.bipush (-2), 2, 0, 0, some (xI (-2)), [])), (38, (.ireturn, 1, 0, 0, none, []))])]
def xc_110 : List (Nat × List (Nat × xEn)) := [(4, [(0, (.aload_n 0, 1, 0, 0, none, [])), (1, (.getfield 189, 3, 7, 10, some (xJ 0), []))]),
  (5, [(4, (.lreturn, 1, 0, 0, none, []))])]
def xc_111 : List (Nat × List (Nat × xEn)) := [(14, [(0, (.aload_n 0, 1, 0, 0, none, [])), (1, (.iload_n 1, 1, 1, 0, none, [])), (2, (.invokevirtual 160, 3, 91, 114, some (xI 0), [])), (5, (.ifCond .eq 9, 3, 14, 0, none, [])), (8, (.aload_n 0, 1, 0, 0, none, [])), (9, (.iload_n 1, 1, 1, 0, none, [])), (10, (.invokevirtual 160, 3, 91, 114, some (xI 0), [])), (13, (.ireturn, 1, 0, 0, none, []))]),
  (28, [(14, (.aload_n 0, 1, 0, 0, none, [])), (15, (.getfield 27, 3, 7, 5, some (xA none), [])), (18, (.iload_n 1, 1, 1, 0, none, [])), (19, (.iaload, 1, 0, 0, none, [])), (20, (.istore 8, 2, 8, 0, none, [])), (22, (.aload_n 0, 1, 0, 0, none, [])), (23, (.getfield 7, 3, 7, 0, some (xA none), [])), (26, (.iload 8, 2, 8, 0, none, []))]),
  (39, [(28, (.iaload, 1, 0, 0, none, [])), (29, (.bipush 7, 2, 0, 0, some (xI 7), [])), (31, (.if_icmp .le 5, 3, 36, 0, none, [])), (34, (.iconst 3, 1, 0, 0, some (xI 3), [])), (35, (.ireturn, 1, 0, 0, none, [])), (36, (.iload_n 2, 1, 2, 0, none, [])), (37, (.i2l, 1, 0, 0, none, [])), (38, (.lconst 0, 1, 0, 0, some (xJ 0), []))]),
  (52, [(39, (.aload_n 0, 1, 0, 0, none, [])), (40, (.getfield 13, 3, 7, 1, some (xA none), [])), (43, (.iload 8, 2, 8, 0, none, [])), (45, (.iaload, 1, 0, 0, none, [])), (46, (.iconst 1, 1, 0, 0, some (xI 1), [])), (47, (.isub, 1, 0, 0, none, [])), (48, (.i2l, 1, 0, 0, none, [])), (49, (.invokestatic 88, 3, 88, 3, some (xI 0), []))]),
  (65, [(52, (.ifCond .ne 5, 3, 57, 0, none, [])), (55, (.iconst 4, 1, 0, 0, some (xI 4), [])), (56, (.ireturn, 1, 0, 0, none, [])), (57, (.iload_n 3, 1, 3, 0, none, [])), (58, (.aload_n 0, 1, 0, 0, none, [])), (59, (.getfield 7, 3, 7, 0, some (xA none), [])), (62, (.iload 8, 2, 8, 0, none, [])), (64, (.iaload, 1, 0, 0, none, []))]),
  (79, [(65, (.invokestatic 171, 3, 97, 2, some (xI 0), [])), (68, (.ifCond .ne 5, 3, 73, 0, none, [])), (71, (.iconst 5, 1, 0, 0, some (xI 5), [])), (72, (.ireturn, 1, 0, 0, none, [])), (73, (.aload_n 0, 1, 0, 0, none, [])), (74, (.bipush 24, 2, 0, 0, some (xI 24), [])), (76, (.iload 8, 2, 8, 0, none, [])), (78, (.imul, 1, 0, 0, none, []))]),
  (91, [(79, (.iload_n 2, 1, 2, 0, none, [])), (80, (.iadd, 1, 0, 0, none, [])), (81, (.aload_n 0, 1, 0, 0, none, [])), (82, (.getfield 7, 3, 7, 0, some (xA none), [])), (85, (.iload 8, 2, 8, 0, none, [])), (87, (.iaload, 1, 0, 0, none, [])), (88, (.iload_n 3, 1, 3, 0, none, [])), (89, (.lload 4, 2, 4, 0, none, []))]),
  (98, [(91, (.dload 6, 2, 6, 0, none, [])), (93, (.invokevirtual 198, 3, 113, 118, none, [])), (96, (.iconst 0, 1, 0, 0, some (xI 0), [])), (97, (.ireturn, 1, 0, 0, none, []))])]
def xc_112 : List (Nat × List (Nat × xEn)) := [(10, [(0, (.iload_n 1, 1, 1, 0, none, [])), (1, (.invokestatic 138, 3, 89, 1, some (xI 0), [])), (4, (.ifCond .ne 5, 3, 9, 0, none, [])), (7, (.iconst (-1), 1, 0, 0, some (xI (-1)), [])), (8, (.ireturn, 1, 0, 0, none, [])), (9, (.iload_n 3, 1, 3, 0, none, []))]),
  (23, [(10, (.i2l, 1, 0, 0, none, [])), (11, (.lconst 0, 1, 0, 0, some (xJ 0), [])), (12, (.ldc2_w 192, 3, 0, 0, some (xJ (7)), [])), (15, (.invokestatic 88, 3, 88, 3, some (xI 0), [])), (18, (.ifCond .ne 6, 3, 24, 0, none, [])), (21, (.bipush (-2), 2, 0, 0, some (xI (-2)), []))]),
  (32, [(23, (.ireturn, 1, 0, 0, none, [])), (24, (.aload_n 0, 1, 0, 0, none, [])), (25, (.iload_n 3, 1, 3, 0, none, [])), (26, (.lload 4, 2, 4, 0, none, [])), (28, (.invokevirtual 202, 3, 96, 115, none, [])), (31, (.aload_n 0, 1, 0, 0, none, []))]),
  (39, [(32, (.bipush 9, 2, 0, 0, some (xI 9), [])), (34, (.iload_n 3, 1, 3, 0, none, [])), (35, (.iadd, 1, 0, 0, none, [])), (36, (.aload_n 0, 1, 0, 0, none, [])), (37, (.iload_n 1, 1, 1, 0, none, [])), (38, (.iload_n 2, 1, 2, 0, none, []))]),
  (51, [(39, (.iload_n 3, 1, 3, 0, none, [])), (40, (.aload_n 0, 1, 0, 0, none, [])), (41, (.getfield 102, 3, 7, 19, some (xJ 0), [])), (44, (.aload_n 0, 1, 0, 0, none, [])), (45, (.getfield 106, 3, 7, 20, some (xD 0), [])), (48, (.invokevirtual 206, 3, 111, 118, some (xI 0), []))]),
  (55, [(51, (.invokevirtual 167, 3, 106, 115, some (xI 0), [])), (54, (.ireturn, 1, 0, 0, none, []))])]
def xc_113 : List (Nat × List (Nat × xEn)) := [(8, [(0, (.iload_n 2, 1, 2, 0, none, [])), (1, (.bipush 7, 2, 0, 0, some (xI 7), [])), (3, (.if_icmp .le 16, 3, 19, 0, none, [])), (6, (.aload_n 0, 1, 0, 0, none, [])), (7, (.iload_n 1, 1, 1, 0, none, []))]),
  (19, [(8, (.iload_n 3, 1, 3, 0, none, [])), (9, (.lload 4, 2, 4, 0, none, [])), (11, (.dload 6, 2, 6, 0, none, [])), (13, (.invokevirtual 98, 3, 94, 117, none, [])), (16, (.goto 30, 3, 46, 0, none, []))]),
  (25, [(19, (.aload_n 0, 1, 0, 0, none, [])), (20, (.iload_n 1, 1, 1, 0, none, [])), (21, (.iload_n 2, 1, 2, 0, none, [])), (22, (.iload_n 2, 1, 2, 0, none, [])), (23, (.bipush 6, 2, 0, 0, some (xI 6), []))]),
  (35, [(25, (.if_icmp .ge 8, 3, 33, 0, none, [])), (28, (.lload 4, 2, 4, 0, none, [])), (30, (.goto 4, 3, 34, 0, none, [])), (33, (.lconst 0, 1, 0, 0, some (xJ 0), [])), (34, (.iload_n 3, 1, 3, 0, none, []))]),
  (46, [(35, (.iload_n 2, 1, 2, 0, none, [])), (36, (.lload 4, 2, 4, 0, none, [])), (38, (.dload 6, 2, 6, 0, none, [])), (40, (.invokestatic 178, 3, 98, 4, some (xD 0), [])), (43, (.invokevirtual 98, 3, 94, 117, none, []))]),
  (47, [(46, (.return_, 1, 0, 0, none, []))])]
def xc_114 : List (Nat × List (Nat × xEn)) := [(47, [(0, (.iload_n 0, 1, 0, 0, none, [])), (1, (.tableswitch 136 8 12 #[35, 52, 76, 100, 118], 35, 137, 0, none, [])), (36, (.iload_n 1, 1, 1, 0, none, [])), (37, (.bipush 11, 2, 0, 0, some (xI 11), [])), (39, (.if_icmp .eq 8, 3, 47, 0, none, [])), (42, (.iload_n 1, 1, 1, 0, none, [])), (43, (.iconst 4, 1, 0, 0, some (xI 4), [])), (44, (.if_icmp .ne 7, 3, 51, 0, none, []))]),
  (60, [(47, (.iconst 1, 1, 0, 0, some (xI 1), [])), (48, (.goto 4, 3, 52, 0, none, [])), (51, (.iconst 0, 1, 0, 0, some (xI 0), [])), (52, (.ireturn, 1, 0, 1, none, [])), (53, (.iload_n 1, 1, 1, 0, none, [])), (54, (.bipush 11, 2, 0, 0, some (xI 11), [])), (56, (.if_icmp .eq 15, 3, 71, 0, none, [])), (59, (.iload_n 1, 1, 1, 0, none, []))]),
  (76, [(60, (.bipush 8, 2, 0, 0, some (xI 8), [])), (62, (.if_icmp .lt 9, 3, 71, 0, none, [])), (65, (.iload_n 1, 1, 1, 0, none, [])), (66, (.bipush 10, 2, 0, 0, some (xI 10), [])), (68, (.if_icmp .ne 7, 3, 75, 0, none, [])), (71, (.iconst 1, 1, 0, 0, some (xI 1), [])), (72, (.goto 4, 3, 76, 0, none, [])), (75, (.iconst 0, 1, 0, 0, some (xI 0), []))]),
  (90, [(76, (.ireturn, 1, 0, 1, none, [])), (77, (.iload_n 1, 1, 1, 0, none, [])), (78, (.bipush 11, 2, 0, 0, some (xI 11), [])), (80, (.if_icmp .eq 15, 3, 95, 0, none, [])), (83, (.iload_n 1, 1, 1, 0, none, [])), (84, (.bipush 8, 2, 0, 0, some (xI 8), [])), (86, (.if_icmp .eq 9, 3, 95, 0, none, [])), (89, (.iload_n 1, 1, 1, 0, none, []))]),
  (104, [(90, (.bipush 9, 2, 0, 0, some (xI 9), [])), (92, (.if_icmp .ne 7, 3, 99, 0, none, [])), (95, (.iconst 1, 1, 0, 0, some (xI 1), [])), (96, (.goto 4, 3, 100, 0, none, [])), (99, (.iconst 0, 1, 0, 0, some (xI 0), [])), (100, (.ireturn, 1, 0, 1, none, [])), (101, (.iload_n 1, 1, 1, 0, none, [])), (102, (.bipush 11, 2, 0, 0, some (xI 11), []))]),
  (119, [(104, (.if_icmp .eq 9, 3, 113, 0, none, [])), (107, (.iload_n 1, 1, 1, 0, none, [])), (108, (.bipush 9, 2, 0, 0, some (xI 9), [])), (110, (.if_icmp .ne 7, 3, 117, 0, none, [])), (113, (.iconst 1, 1, 0, 0, some (xI 1), [])), (114, (.goto 4, 3, 118, 0, none, [])), (117, (.iconst 0, 1, 0, 0, some (xI 0), [])), (118, (.ireturn, 1, 0, 1, none, []))]),
  (135, [(119, (.iload_n 1, 1, 1, 0, none, [])), (120, (.bipush 11, 2, 0, 0, some (xI 11), [])), (122, (.if_icmp .eq 9, 3, 131, 0, none, [])), (125, (.iload_n 1, 1, 1, 0, none, [])), (126, (.bipush 10, 2, 0, 0, some (xI 10), [])), (128, (.if_icmp .ne 7, 3, 135, 0, none, [])), (131, (.iconst 1, 1, 0, 0, some (xI 1), [])), (132, (.goto 4, 3, 136, 0, none, []))]),
  (148, [(135, (.iconst 0, 1, 0, 0, some (xI 0), [])), (136, (.ireturn, 1, 0, 1, none, [])), (137, (.iload_n 1, 1, 1, 0, none, [])), (138, (.bipush 8, 2, 0, 0, some (xI 8), [])), (140, (.if_icmp .ge 15, 3, 155, 0, none, [])), (143, (.iload_n 1, 1, 1, 0, none, [])), (144, (.iload_n 0, 1, 0, 0, none, [])), (145, (.invokestatic 171, 3, 97, 2, some (xI 0), []))]),
  (157, [(148, (.ifCond .eq 7, 3, 155, 0, none, [])), (151, (.iconst 1, 1, 0, 0, some (xI 1), [])), (152, (.goto 4, 3, 156, 0, none, [])), (155, (.iconst 0, 1, 0, 0, some (xI 0), [])), (156, (.ireturn, 1, 0, 1, none, []))])]
def xc_115 : List (Nat × List (Nat × xEn)) := [(9, [(0, (.aload_n 0, 1, 0, 0, none, [])), (1, (.iload_n 1, 1, 1, 0, none, [])), (2, (.invokevirtual 160, 3, 91, 114, some (xI 0), [])), (5, (.ifCond .eq 9, 3, 14, 0, none, [])), (8, (.aload_n 0, 1, 0, 0, none, []))]),
  (16, [(9, (.iload_n 1, 1, 1, 0, none, [])), (10, (.invokevirtual 160, 3, 91, 114, some (xI 0), [])), (13, (.ireturn, 1, 0, 0, none, [])), (14, (.iload_n 2, 1, 2, 0, none, [])), (15, (.i2l, 1, 0, 0, none, []))]),
  (25, [(16, (.lconst 0, 1, 0, 0, some (xJ 0), [])), (17, (.aload_n 0, 1, 0, 0, none, [])), (18, (.getfield 13, 3, 7, 1, some (xA none), [])), (21, (.aload_n 0, 1, 0, 0, none, [])), (22, (.getfield 27, 3, 7, 5, some (xA none), []))]),
  (30, [(25, (.iload_n 1, 1, 1, 0, none, [])), (26, (.iaload, 1, 0, 0, none, [])), (27, (.iaload, 1, 0, 0, none, [])), (28, (.iconst 1, 1, 0, 0, some (xI 1), [])), (29, (.isub, 1, 0, 0, none, []))]),
  (41, [(30, (.i2l, 1, 0, 0, none, [])), (31, (.invokestatic 88, 3, 88, 3, some (xI 0), [])), (34, (.ifCond .eq 7, 3, 41, 0, none, [])), (37, (.iconst 0, 1, 0, 0, some (xI 0), [])), (38, (.goto 4, 3, 42, 0, none, []))]),
  (43, [(41, (.iconst 4, 1, 0, 0, some (xI 4), [])), (42, (.ireturn, 1, 0, 0, none, []))])]
def xc_116 : List (Nat × List (Nat × xEn)) := [(8, [(0, (.aload_n 0, 1, 0, 0, none, [])), (1, (.iload_n 1, 1, 1, 0, none, [])), (2, (.iload_n 2, 1, 2, 0, none, [])), (3, (.invokevirtual 210, 3, 115, 115, some (xI 0), [])), (6, (.istore_n 3, 1, 3, 0, none, [])), (7, (.iload_n 3, 1, 3, 0, none, []))]),
  (19, [(8, (.ifCond .ne 49, 3, 57, 0, none, [])), (11, (.bipush 24, 2, 0, 0, some (xI 24), [])), (13, (.aload_n 0, 1, 0, 0, none, [])), (14, (.getfield 27, 3, 7, 5, some (xA none), [])), (17, (.iload_n 1, 1, 1, 0, none, [])), (18, (.iaload, 1, 0, 0, none, []))]),
  (26, [(19, (.imul, 1, 0, 0, none, [])), (20, (.iload_n 2, 1, 2, 0, none, [])), (21, (.iadd, 1, 0, 0, none, [])), (22, (.istore 4, 2, 4, 0, none, [])), (24, (.aload_n 0, 1, 0, 0, none, [])), (25, (.aload_n 0, 1, 0, 0, none, []))]),
  (37, [(26, (.getfield 16, 3, 7, 2, some (xA none), [])), (29, (.iload 4, 2, 4, 0, none, [])), (31, (.iaload, 1, 0, 0, none, [])), (32, (.putfield 34, 3, 7, 7, some (xI 0), [])), (35, (.aload_n 0, 1, 0, 0, none, [])), (36, (.aload_n 0, 1, 0, 0, none, []))]),
  (48, [(37, (.getfield 19, 3, 7, 3, some (xA none), [])), (40, (.iload 4, 2, 4, 0, none, [])), (42, (.laload, 1, 0, 0, none, [])), (43, (.putfield 213, 3, 7, 8, some (xJ 0), [])), (46, (.aload_n 0, 1, 0, 0, none, [])), (47, (.aload_n 0, 1, 0, 0, none, []))]),
  (60, [(48, (.getfield 23, 3, 7, 4, some (xA none), [])), (51, (.iload 4, 2, 4, 0, none, [])), (53, (.daload, 1, 0, 0, none, [])), (54, (.putfield 216, 3, 7, 9, some (xD 0), [])), (57, (.aload_n 0, 1, 0, 0, none, [])), (58, (.bipush 8, 2, 0, 0, some (xI 8), []))]),
  (65, [(60, (.iload_n 3, 1, 3, 0, none, [])), (61, (.invokevirtual 167, 3, 106, 115, some (xI 0), [])), (64, (.ireturn, 1, 0, 0, none, []))])]
def xc_117 : List (Nat × List (Nat × xEn)) := [(11, [(0, (.aload_n 0, 1, 0, 0, none, [])), (1, (.iload_n 1, 1, 1, 0, none, [])), (2, (.iload_n 2, 1, 2, 0, none, [])), (3, (.invokevirtual 210, 3, 115, 115, some (xI 0), [])), (6, (.istore_n 3, 1, 3, 0, none, [])), (7, (.iload_n 3, 1, 3, 0, none, [])), (8, (.ifCond .ne 26, 3, 34, 0, none, []))]),
  (22, [(11, (.aload_n 0, 1, 0, 0, none, [])), (12, (.getfield 7, 3, 7, 0, some (xA none), [])), (15, (.aload_n 0, 1, 0, 0, none, [])), (16, (.getfield 27, 3, 7, 5, some (xA none), [])), (19, (.iload_n 1, 1, 1, 0, none, [])), (20, (.iaload, 1, 0, 0, none, [])), (21, (.iaload, 1, 0, 0, none, []))]),
  (35, [(22, (.aload_n 0, 1, 0, 0, none, [])), (23, (.getfield 34, 3, 7, 7, some (xI 0), [])), (26, (.invokestatic 219, 3, 114, 2, some (xI 0), [])), (29, (.ifCond .ne 5, 3, 34, 0, none, [])), (32, (.iconst 5, 1, 0, 0, some (xI 5), [])), (33, (.istore_n 3, 1, 3, 0, none, [])), (34, (.iload_n 3, 1, 3, 0, none, []))]),
  (47, [(35, (.ifCond .ne 41, 3, 76, 0, none, [])), (38, (.aload_n 0, 1, 0, 0, none, [])), (39, (.bipush 24, 2, 0, 0, some (xI 24), [])), (41, (.aload_n 0, 1, 0, 0, none, [])), (42, (.getfield 27, 3, 7, 5, some (xA none), [])), (45, (.iload_n 1, 1, 1, 0, none, [])), (46, (.iaload, 1, 0, 0, none, []))]),
  (58, [(47, (.imul, 1, 0, 0, none, [])), (48, (.iload_n 2, 1, 2, 0, none, [])), (49, (.iadd, 1, 0, 0, none, [])), (50, (.aload_n 0, 1, 0, 0, none, [])), (51, (.getfield 7, 3, 7, 0, some (xA none), [])), (54, (.aload_n 0, 1, 0, 0, none, [])), (55, (.getfield 27, 3, 7, 5, some (xA none), []))]),
  (69, [(58, (.iload_n 1, 1, 1, 0, none, [])), (59, (.iaload, 1, 0, 0, none, [])), (60, (.iaload, 1, 0, 0, none, [])), (61, (.aload_n 0, 1, 0, 0, none, [])), (62, (.getfield 34, 3, 7, 7, some (xI 0), [])), (65, (.aload_n 0, 1, 0, 0, none, [])), (66, (.getfield 213, 3, 7, 8, some (xJ 0), []))]),
  (83, [(69, (.aload_n 0, 1, 0, 0, none, [])), (70, (.getfield 216, 3, 7, 9, some (xD 0), [])), (73, (.invokevirtual 198, 3, 113, 118, none, [])), (76, (.aload_n 0, 1, 0, 0, none, [])), (77, (.bipush 17, 2, 0, 0, some (xI 17), [])), (79, (.iload_n 3, 1, 3, 0, none, [])), (80, (.invokevirtual 167, 3, 106, 115, some (xI 0), []))]),
  (84, [(83, (.ireturn, 1, 0, 0, none, []))])]
def xc_118 : List (Nat × List (Nat × xEn)) := [(7, [(0, (.iload_n 1, 1, 1, 0, none, [])), (1, (.invokestatic 138, 3, 89, 1, some (xI 0), [])), (4, (.ifCond .eq 12, 3, 16, 0, none, []))]),
  (10, [(7, (.aload_n 0, 1, 0, 0, none, [])), (8, (.iload_n 1, 1, 1, 0, none, [])), (9, (.iload_n 2, 1, 2, 0, none, []))]),
  (17, [(10, (.invokevirtual 222, 3, 116, 115, some (xI 0), [])), (13, (.goto 4, 3, 17, 0, none, [])), (16, (.iconst (-1), 1, 0, 0, some (xI (-1)), []))]),
  (18, [(17, (.ireturn, 1, 0, 0, none, []))])]
def xc_119 : List (Nat × List (Nat × xEn)) := [(7, [(0, (.iload_n 1, 1, 1, 0, none, [])), (1, (.invokestatic 138, 3, 89, 1, some (xI 0), [])), (4, (.ifCond .eq 12, 3, 16, 0, none, []))]),
  (10, [(7, (.aload_n 0, 1, 0, 0, none, [])), (8, (.iload_n 1, 1, 1, 0, none, [])), (9, (.iload_n 2, 1, 2, 0, none, []))]),
  (17, [(10, (.invokevirtual 225, 3, 117, 115, some (xI 0), [])), (13, (.goto 4, 3, 17, 0, none, [])), (16, (.iconst (-1), 1, 0, 0, some (xI (-1)), []))]),
  (18, [(17, (.ireturn, 1, 0, 0, none, []))])]
def xc_120 : List (Nat × List (Nat × xEn)) := [(18, [(0, (.iload_n 1, 1, 1, 0, none, [])), (1, (.i2l, 1, 0, 0, none, [])), (2, (.lconst 0, 1, 0, 0, some (xJ 0), [])), (3, (.ldc2_w 228, 3, 0, 0, some (xJ (11)), [])), (6, (.invokestatic 88, 3, 88, 3, some (xI 0), [])), (9, (.ifCond .eq 20, 3, 29, 0, none, [])), (12, (.iload_n 1, 1, 1, 0, none, [])), (13, (.bipush 10, 2, 0, 0, some (xI 10), [])), (15, (.if_icmp .ne 17, 3, 32, 0, none, []))]),
  (35, [(18, (.lload_n 2, 1, 2, 0, none, [])), (19, (.lconst 0, 1, 0, 0, some (xJ 0), [])), (20, (.ldc2_w 143, 3, 0, 0, some (xJ (99)), [])), (23, (.invokestatic 88, 3, 88, 3, some (xI 0), [])), (26, (.ifCond .ne 6, 3, 32, 0, none, [])), (29, (.bipush (-2), 2, 0, 0, some (xI (-2)), [])), (31, (.ireturn, 1, 0, 0, none, [])), (32, (.iload_n 1, 1, 1, 0, none, [])), (33, (.bipush 8, 2, 0, 0, some (xI 8), []))]),
  (55, [(35, (.if_icmp .eq 9, 3, 44, 0, none, [])), (38, (.iload_n 1, 1, 1, 0, none, [])), (39, (.bipush 9, 2, 0, 0, some (xI 9), [])), (41, (.if_icmp .ne 15, 3, 56, 0, none, [])), (44, (.aload_n 0, 1, 0, 0, none, [])), (45, (.getfield 145, 3, 7, 13, some (xI 0), [])), (48, (.bipush 60, 2, 0, 0, some (xI 60), [])), (50, (.if_icmp .ne 6, 3, 56, 0, none, [])), (53, (.bipush (-4), 2, 0, 0, some (xI (-4)), []))]),
  (68, [(55, (.ireturn, 1, 0, 0, none, [])), (56, (.aload_n 0, 1, 0, 0, none, [])), (57, (.iload_n 1, 1, 1, 0, none, [])), (58, (.putfield 34, 3, 7, 7, some (xI 0), [])), (61, (.aload_n 0, 1, 0, 0, none, [])), (62, (.lconst 0, 1, 0, 0, some (xJ 0), [])), (63, (.putfield 213, 3, 7, 8, some (xJ 0), [])), (66, (.aload_n 0, 1, 0, 0, none, [])), (67, (.dconst 0, 1, 0, 0, some (xD 0), []))]),
  (84, [(68, (.putfield 216, 3, 7, 9, some (xD 0), [])), (71, (.iload_n 1, 1, 1, 0, none, [])), (72, (.bipush 8, 2, 0, 0, some (xI 8), [])), (74, (.if_icmp .ge 28, 3, 102, 0, none, [])), (77, (.aload_n 0, 1, 0, 0, none, [])), (78, (.iload_n 1, 1, 1, 0, none, [])), (79, (.lload_n 2, 1, 2, 0, none, [])), (80, (.invokevirtual 202, 3, 96, 115, none, [])), (83, (.aload_n 0, 1, 0, 0, none, []))]),
  (103, [(84, (.aload_n 0, 1, 0, 0, none, [])), (85, (.getfield 102, 3, 7, 19, some (xJ 0), [])), (88, (.putfield 213, 3, 7, 8, some (xJ 0), [])), (91, (.aload_n 0, 1, 0, 0, none, [])), (92, (.aload_n 0, 1, 0, 0, none, [])), (93, (.getfield 106, 3, 7, 20, some (xD 0), [])), (96, (.putfield 216, 3, 7, 9, some (xD 0), [])), (99, (.goto 45, 3, 144, 0, none, [])), (102, (.iload_n 1, 1, 1, 0, none, []))]),
  (118, [(103, (.bipush 10, 2, 0, 0, some (xI 10), [])), (105, (.if_icmp .ge 28, 3, 133, 0, none, [])), (108, (.aload_n 0, 1, 0, 0, none, [])), (109, (.aload_n 0, 1, 0, 0, none, [])), (110, (.lload_n 2, 1, 2, 0, none, [])), (111, (.l2i, 1, 0, 0, none, [])), (112, (.iload_n 1, 1, 1, 0, none, [])), (113, (.bipush 9, 2, 0, 0, some (xI 9), [])), (115, (.if_icmp .ne 7, 3, 122, 0, none, []))]),
  (136, [(118, (.iconst 1, 1, 0, 0, some (xI 1), [])), (119, (.goto 4, 3, 123, 0, none, [])), (122, (.iconst 0, 1, 0, 0, some (xI 0), [])), (123, (.invokevirtual 156, 3, 103, 115, some (xI 0), [])), (126, (.i2l, 1, 0, 0, none, [])), (127, (.putfield 213, 3, 7, 8, some (xJ 0), [])), (130, (.goto 14, 3, 144, 0, none, [])), (133, (.iload_n 1, 1, 1, 0, none, [])), (134, (.bipush 10, 2, 0, 0, some (xI 10), []))]),
  (146, [(136, (.if_icmp .ne 8, 3, 144, 0, none, [])), (139, (.aload_n 0, 1, 0, 0, none, [])), (140, (.lload_n 2, 1, 2, 0, none, [])), (141, (.putfield 213, 3, 7, 8, some (xJ 0), [])), (144, (.iconst 0, 1, 0, 0, some (xI 0), [])), (145, (.ireturn, 1, 0, 0, none, []))])]
def xc_121 : List (Nat × List (Nat × xEn)) := [(6, [(0, (.aload_n 0, 1, 0, 0, none, [])), (1, (.getfield 34, 3, 7, 7, some (xI 0), [])), (4, (.bipush 8, 2, 0, 0, some (xI 8), []))]),
  (13, [(6, (.if_icmp .eq 12, 3, 18, 0, none, [])), (9, (.aload_n 0, 1, 0, 0, none, [])), (10, (.getfield 34, 3, 7, 7, some (xI 0), []))]),
  (19, [(13, (.bipush 9, 2, 0, 0, some (xI 9), [])), (15, (.if_icmp .ne 7, 3, 22, 0, none, [])), (18, (.iconst 1, 1, 0, 0, some (xI 1), []))]),
  (24, [(19, (.goto 4, 3, 23, 0, none, [])), (22, (.iconst 0, 1, 0, 0, some (xI 0), [])), (23, (.ireturn, 1, 0, 1, none, []))])]
def xc_122 : List (Nat × List (Nat × xEn)) := [(34, [(0, (.iload_n 1, 1, 1, 0, none, [])), (1, (.tableswitch 99 0 2 #[27, 33, 83], 27, 100, 0, none, [])), (28, (.aload_n 0, 1, 0, 0, none, [])), (29, (.getfield 34, 3, 7, 7, some (xI 0), [])), (32, (.i2l, 1, 0, 0, none, [])), (33, (.lreturn, 1, 0, 0, none, []))]),
  (46, [(34, (.aload_n 0, 1, 0, 0, none, [])), (35, (.invokevirtual 230, 3, 121, 113, some (xI 0), [])), (38, (.ifCond .eq 17, 3, 55, 0, none, [])), (41, (.aload_n 0, 1, 0, 0, none, [])), (42, (.getfield 37, 3, 7, 11, some (xA none), [])), (45, (.aload_n 0, 1, 0, 0, none, []))]),
  (56, [(46, (.getfield 213, 3, 7, 8, some (xJ 0), [])), (49, (.l2i, 1, 0, 0, none, [])), (50, (.iaload, 1, 0, 0, none, [])), (51, (.i2l, 1, 0, 0, none, [])), (52, (.goto 31, 3, 83, 0, none, [])), (55, (.aload_n 0, 1, 0, 0, none, []))]),
  (69, [(56, (.getfield 34, 3, 7, 7, some (xI 0), [])), (59, (.bipush 11, 2, 0, 0, some (xI 11), [])), (61, (.if_icmp .ne 7, 3, 68, 0, none, [])), (64, (.lconst 0, 1, 0, 0, some (xJ 0), [])), (65, (.goto 18, 3, 83, 0, none, [])), (68, (.aload_n 0, 1, 0, 0, none, []))]),
  (83, [(69, (.getfield 34, 3, 7, 7, some (xI 0), [])), (72, (.aload_n 0, 1, 0, 0, none, [])), (73, (.getfield 213, 3, 7, 8, some (xJ 0), [])), (76, (.aload_n 0, 1, 0, 0, none, [])), (77, (.getfield 216, 3, 7, 9, some (xD 0), [])), (80, (.invokestatic 185, 3, 101, 3, some (xJ 0), []))]),
  (95, [(83, (.lreturn, 1, 0, 0, none, [])), (84, (.aload_n 0, 1, 0, 0, none, [])), (85, (.invokevirtual 230, 3, 121, 113, some (xI 0), [])), (88, (.ifCond .eq 10, 3, 98, 0, none, [])), (91, (.aload_n 0, 1, 0, 0, none, [])), (92, (.getfield 213, 3, 7, 8, some (xJ 0), []))]),
  (104, [(95, (.goto 4, 3, 99, 0, none, [])), (98, (.lconst 0, 1, 0, 0, some (xJ 0), [])), (99, (.lreturn, 1, 0, 0, none, [])), (100, (.ldc2_w 234, 3, 0, 0, some (xJ (-2)), [])), (103, (.lreturn, 1, 0, 0, none, []))])]
def xc_123 : List (Nat × List (Nat × xEn)) := [(10, [(0, (.aload_n 0, 1, 0, 0, none, [])), (1, (.invokevirtual 230, 3, 121, 113, some (xI 0), [])), (4, (.ifCond .ne 6, 3, 10, 0, none, [])), (7, (.bipush (-3), 2, 0, 0, some (xI (-3)), [])), (9, (.ireturn, 1, 0, 0, none, []))]),
  (19, [(10, (.aload_n 0, 1, 0, 0, none, [])), (11, (.getfield 37, 3, 7, 11, some (xA none), [])), (14, (.aload_n 0, 1, 0, 0, none, [])), (15, (.getfield 213, 3, 7, 8, some (xJ 0), [])), (18, (.l2i, 1, 0, 0, none, []))]),
  (24, [(19, (.dup2, 1, 0, 0, none, [])), (20, (.iaload, 1, 0, 0, none, [])), (21, (.iload_n 1, 1, 1, 0, none, [])), (22, (.iadd, 1, 0, 0, none, [])), (23, (.iastore, 1, 0, 0, none, []))]),
  (33, [(24, (.aload_n 0, 1, 0, 0, none, [])), (25, (.getfield 37, 3, 7, 11, some (xA none), [])), (28, (.aload_n 0, 1, 0, 0, none, [])), (29, (.getfield 213, 3, 7, 8, some (xJ 0), [])), (32, (.l2i, 1, 0, 0, none, []))]),
  (35, [(33, (.iaload, 1, 0, 0, none, [])), (34, (.ireturn, 1, 0, 0, none, []))])]
def xc_124 : List (Nat × List (Nat × xEn)) := [(19, [(0, (.iload_n 1, 1, 1, 0, none, [])), (1, (.invokestatic 138, 3, 89, 1, some (xI 0), [])), (4, (.ifCond .ne 5, 3, 9, 0, none, [])), (7, (.iconst (-1), 1, 0, 0, some (xI (-1)), [])), (8, (.ireturn, 1, 0, 0, none, [])), (9, (.aload_n 0, 1, 0, 0, none, [])), (10, (.iload_n 1, 1, 1, 0, none, [])), (11, (.invokevirtual 160, 3, 91, 114, some (xI 0), [])), (14, (.ifCond .eq 9, 3, 23, 0, none, [])), (17, (.aload_n 0, 1, 0, 0, none, [])), (18, (.iload_n 1, 1, 1, 0, none, []))]),
  (37, [(19, (.invokevirtual 160, 3, 91, 114, some (xI 0), [])), (22, (.ireturn, 1, 0, 0, none, [])), (23, (.aload_n 0, 1, 0, 0, none, [])), (24, (.getfield 27, 3, 7, 5, some (xA none), [])), (27, (.iload_n 1, 1, 1, 0, none, [])), (28, (.iaload, 1, 0, 0, none, [])), (29, (.istore 4, 2, 4, 0, none, [])), (31, (.iload_n 3, 1, 3, 0, none, [])), (32, (.iconst 1, 1, 0, 0, some (xI 1), [])), (33, (.if_icmp .lt 35, 3, 68, 0, none, [])), (36, (.iload_n 2, 1, 2, 0, none, []))]),
  (55, [(37, (.i2l, 1, 0, 0, none, [])), (38, (.lconst 0, 1, 0, 0, some (xJ 0), [])), (39, (.aload_n 0, 1, 0, 0, none, [])), (40, (.getfield 13, 3, 7, 1, some (xA none), [])), (43, (.iload 4, 2, 4, 0, none, [])), (45, (.iaload, 1, 0, 0, none, [])), (46, (.iconst 1, 1, 0, 0, some (xI 1), [])), (47, (.isub, 1, 0, 0, none, [])), (48, (.i2l, 1, 0, 0, none, [])), (49, (.invokestatic 88, 3, 88, 3, some (xI 0), [])), (52, (.ifCond .eq 16, 3, 68, 0, none, []))]),
  (71, [(55, (.iload_n 3, 1, 3, 0, none, [])), (56, (.aload_n 0, 1, 0, 0, none, [])), (57, (.getfield 13, 3, 7, 1, some (xA none), [])), (60, (.iload 4, 2, 4, 0, none, [])), (62, (.iaload, 1, 0, 0, none, [])), (63, (.iload_n 2, 1, 2, 0, none, [])), (64, (.isub, 1, 0, 0, none, [])), (65, (.if_icmp .le 5, 3, 70, 0, none, [])), (68, (.iconst 4, 1, 0, 0, some (xI 4), [])), (69, (.ireturn, 1, 0, 0, none, [])), (70, (.aload_n 0, 1, 0, 0, none, []))]),
  (93, [(71, (.bipush (-6), 2, 0, 0, some (xI (-6)), [])), (73, (.invokevirtual 148, 3, 92, 114, some (xI 0), [])), (76, (.istore 5, 2, 5, 0, none, [])), (78, (.aload_n 0, 1, 0, 0, none, [])), (79, (.iload 5, 2, 5, 0, none, [])), (81, (.invokevirtual 148, 3, 92, 114, some (xI 0), [])), (84, (.istore 6, 2, 6, 0, none, [])), (86, (.aload_n 0, 1, 0, 0, none, [])), (87, (.iload 5, 2, 5, 0, none, [])), (89, (.aload_n 0, 1, 0, 0, none, [])), (90, (.getfield 7, 3, 7, 0, some (xA none), []))]),
  (111, [(93, (.iload 4, 2, 4, 0, none, [])), (95, (.iaload, 1, 0, 0, none, [])), (96, (.iload_n 3, 1, 3, 0, none, [])), (97, (.invokevirtual 152, 3, 93, 116, none, [])), (100, (.aload_n 0, 1, 0, 0, none, [])), (101, (.iload 6, 2, 6, 0, none, [])), (103, (.aload_n 0, 1, 0, 0, none, [])), (104, (.getfield 7, 3, 7, 0, some (xA none), [])), (107, (.iload 4, 2, 4, 0, none, [])), (109, (.iaload, 1, 0, 0, none, [])), (110, (.aload_n 0, 1, 0, 0, none, []))]),
  (131, [(111, (.getfield 13, 3, 7, 1, some (xA none), [])), (114, (.iload 4, 2, 4, 0, none, [])), (116, (.iaload, 1, 0, 0, none, [])), (117, (.iload_n 3, 1, 3, 0, none, [])), (118, (.isub, 1, 0, 0, none, [])), (119, (.invokevirtual 152, 3, 93, 116, none, [])), (122, (.iconst 0, 1, 0, 0, some (xI 0), [])), (123, (.istore 7, 2, 7, 0, none, [])), (125, (.iload 7, 2, 7, 0, none, [true, true, true, true, true, true, true, true, false])), (127, (.aload_n 0, 1, 0, 0, none, [])), (128, (.getfield 13, 3, 7, 1, some (xA none), []))]),
  (151, [(131, (.iload 4, 2, 4, 0, none, [])), (133, (.iaload, 1, 0, 0, none, [])), (134, (.if_icmp .ge 73, 3, 207, 0, none, [])), (137, (.iload 7, 2, 7, 0, none, [])), (139, (.iload_n 2, 1, 2, 0, none, [])), (140, (.if_icmp .ge 14, 3, 154, 0, none, [])), (143, (.bipush 24, 2, 0, 0, some (xI 24), [])), (145, (.iload 6, 2, 6, 0, none, [])), (147, (.imul, 1, 0, 0, none, [])), (148, (.iload 7, 2, 7, 0, none, [])), (150, (.iadd, 1, 0, 0, none, []))]),
  (170, [(151, (.goto 34, 3, 185, 0, none, [])), (154, (.iload 7, 2, 7, 0, none, [])), (156, (.iload_n 2, 1, 2, 0, none, [])), (157, (.iload_n 3, 1, 3, 0, none, [])), (158, (.iadd, 1, 0, 0, none, [])), (159, (.if_icmp .ge 16, 3, 175, 0, none, [])), (162, (.bipush 24, 2, 0, 0, some (xI 24), [])), (164, (.iload 5, 2, 5, 0, none, [])), (166, (.imul, 1, 0, 0, none, [])), (167, (.iload 7, 2, 7, 0, none, [])), (169, (.iadd, 1, 0, 0, none, []))]),
  (187, [(170, (.iload_n 2, 1, 2, 0, none, [])), (171, (.isub, 1, 0, 0, none, [])), (172, (.goto 13, 3, 185, 0, none, [])), (175, (.bipush 24, 2, 0, 0, some (xI 24), [])), (177, (.iload 6, 2, 6, 0, none, [])), (179, (.imul, 1, 0, 0, none, [])), (180, (.iload 7, 2, 7, 0, none, [])), (182, (.iadd, 1, 0, 0, none, [])), (183, (.iload_n 3, 1, 3, 0, none, [])), (184, (.isub, 1, 0, 0, none, [])), (185, (.istore 8, 2, 8, 0, none, []))]),
  (208, [(187, (.aload_n 0, 1, 0, 0, none, [])), (188, (.bipush 24, 2, 0, 0, some (xI 24), [])), (190, (.iload 4, 2, 4, 0, none, [])), (192, (.imul, 1, 0, 0, none, [])), (193, (.iload 7, 2, 7, 0, none, [])), (195, (.iadd, 1, 0, 0, none, [])), (196, (.iload 8, 2, 8, 0, none, [])), (198, (.invokevirtual 163, 3, 95, 115, none, [])), (201, (.iinc 7 1, 3, 7, 0, some (xI (1)), [])), (204, (.goto (-79), 3, 125, 0, none, [])), (207, (.aload_n 0, 1, 0, 0, none, []))]),
  (223, [(208, (.iload 5, 2, 5, 0, none, [])), (210, (.putfield 30, 3, 7, 6, some (xI 0), [])), (213, (.aload_n 0, 1, 0, 0, none, [])), (214, (.getfield 27, 3, 7, 5, some (xA none), [])), (217, (.iload_n 1, 1, 1, 0, none, [])), (218, (.iload 6, 2, 6, 0, none, [])), (220, (.iastore, 1, 0, 0, none, [])), (221, (.iconst 0, 1, 0, 0, some (xI 0), [])), (222, (.ireturn, 1, 0, 0, none, []))])]
def xc_125 : List (Nat × List (Nat × xEn)) := [(7, [(0, (.iconst 0, 1, 0, 0, some (xI 0), [])), (1, (.istore_n 3, 1, 3, 0, none, [])), (2, (.iload_n 3, 1, 3, 0, none, [true, true, true, true])), (3, (.aload_n 0, 1, 0, 0, none, [])), (4, (.getfield 13, 3, 7, 1, some (xA none), []))]),
  (14, [(7, (.iload_n 1, 1, 1, 0, none, [])), (8, (.iaload, 1, 0, 0, none, [])), (9, (.if_icmp .ge 27, 3, 36, 0, none, [])), (12, (.iload_n 2, 1, 2, 0, none, [])), (13, (.aload_n 0, 1, 0, 0, none, []))]),
  (22, [(14, (.getfield 16, 3, 7, 2, some (xA none), [])), (17, (.bipush 24, 2, 0, 0, some (xI 24), [])), (19, (.iload_n 1, 1, 1, 0, none, [])), (20, (.imul, 1, 0, 0, none, [])), (21, (.iload_n 3, 1, 3, 0, none, []))]),
  (33, [(22, (.iadd, 1, 0, 0, none, [])), (23, (.iaload, 1, 0, 0, none, [])), (24, (.invokestatic 219, 3, 114, 2, some (xI 0), [])), (27, (.ifCond .eq 9, 3, 36, 0, none, [])), (30, (.iinc 3 1, 3, 3, 0, some (xI (1)), []))]),
  (38, [(33, (.goto (-31), 3, 2, 0, none, [])), (36, (.iload_n 3, 1, 3, 0, none, [])), (37, (.ireturn, 1, 0, 0, none, []))])]
def xc_126 : List (Nat × List (Nat × xEn)) := [(6, [(0, (.bipush 24, 2, 0, 0, some (xI 24), [])), (2, (.iload_n 1, 1, 1, 0, none, [])), (3, (.imul, 1, 0, 0, none, [])), (4, (.iload_n 2, 1, 2, 0, none, [])), (5, (.iadd, 1, 0, 0, none, []))]),
  (13, [(6, (.istore 5, 2, 5, 0, none, [])), (8, (.aload_n 0, 1, 0, 0, none, [])), (9, (.bipush 24, 2, 0, 0, some (xI 24), [])), (11, (.iload_n 3, 1, 3, 0, none, [])), (12, (.imul, 1, 0, 0, none, []))]),
  (21, [(13, (.iload 4, 2, 4, 0, none, [])), (15, (.iadd, 1, 0, 0, none, [])), (16, (.aload_n 0, 1, 0, 0, none, [])), (17, (.getfield 7, 3, 7, 0, some (xA none), [])), (20, (.iload_n 3, 1, 3, 0, none, []))]),
  (29, [(21, (.iaload, 1, 0, 0, none, [])), (22, (.aload_n 0, 1, 0, 0, none, [])), (23, (.getfield 16, 3, 7, 2, some (xA none), [])), (26, (.iload 5, 2, 5, 0, none, [])), (28, (.iaload, 1, 0, 0, none, []))]),
  (37, [(29, (.aload_n 0, 1, 0, 0, none, [])), (30, (.getfield 19, 3, 7, 3, some (xA none), [])), (33, (.iload 5, 2, 5, 0, none, [])), (35, (.laload, 1, 0, 0, none, [])), (36, (.aload_n 0, 1, 0, 0, none, []))]),
  (47, [(37, (.getfield 23, 3, 7, 4, some (xA none), [])), (40, (.iload 5, 2, 5, 0, none, [])), (42, (.daload, 1, 0, 0, none, [])), (43, (.invokevirtual 198, 3, 113, 118, none, [])), (46, (.return_, 1, 0, 0, none, []))])]
def xc_127 : List (Nat × List (Nat × xEn)) := [(24, [(0, (.iload_n 1, 1, 1, 0, none, [])), (1, (.invokestatic 138, 3, 89, 1, some (xI 0), [])), (4, (.ifCond .ne 5, 3, 9, 0, none, [])), (7, (.iconst (-1), 1, 0, 0, some (xI (-1)), [])), (8, (.ireturn, 1, 0, 0, none, [])), (9, (.aload_n 0, 1, 0, 0, none, [])), (10, (.getfield 30, 3, 7, 6, some (xI 0), [])), (13, (.ifCond .ge 6, 3, 19, 0, none, [])), (16, (.bipush (-3), 2, 0, 0, some (xI (-3)), [])), (18, (.ireturn, 1, 0, 0, none, [])), (19, (.aload_n 0, 1, 0, 0, none, [])), (20, (.iload_n 1, 1, 1, 0, none, [])), (21, (.invokevirtual 94, 3, 90, 114, some (xI 0), []))]),
  (47, [(24, (.ifCond .eq 32, 3, 56, 0, none, [])), (27, (.aload_n 0, 1, 0, 0, none, [])), (28, (.getfield 13, 3, 7, 1, some (xA none), [])), (31, (.aload_n 0, 1, 0, 0, none, [])), (32, (.getfield 27, 3, 7, 5, some (xA none), [])), (35, (.iload_n 1, 1, 1, 0, none, [])), (36, (.iaload, 1, 0, 0, none, [])), (37, (.iaload, 1, 0, 0, none, [])), (38, (.aload_n 0, 1, 0, 0, none, [])), (39, (.getfield 13, 3, 7, 1, some (xA none), [])), (42, (.aload_n 0, 1, 0, 0, none, [])), (43, (.getfield 30, 3, 7, 6, some (xI 0), [])), (46, (.iaload, 1, 0, 0, none, []))]),
  (70, [(47, (.iadd, 1, 0, 0, none, [])), (48, (.bipush 24, 2, 0, 0, some (xI 24), [])), (50, (.if_icmp .le 6, 3, 56, 0, none, [])), (53, (.bipush (-4), 2, 0, 0, some (xI (-4)), [])), (55, (.ireturn, 1, 0, 0, none, [])), (56, (.aload_n 0, 1, 0, 0, none, [])), (57, (.iload_n 1, 1, 1, 0, none, [])), (58, (.invokevirtual 160, 3, 91, 114, some (xI 0), [])), (61, (.ifCond .eq 9, 3, 70, 0, none, [])), (64, (.aload_n 0, 1, 0, 0, none, [])), (65, (.iload_n 1, 1, 1, 0, none, [])), (66, (.invokevirtual 160, 3, 91, 114, some (xI 0), [])), (69, (.ireturn, 1, 0, 0, none, []))]),
  (87, [(70, (.aload_n 0, 1, 0, 0, none, [])), (71, (.getfield 27, 3, 7, 5, some (xA none), [])), (74, (.iload_n 1, 1, 1, 0, none, [])), (75, (.iaload, 1, 0, 0, none, [])), (76, (.istore_n 3, 1, 3, 0, none, [])), (77, (.iload_n 2, 1, 2, 0, none, [])), (78, (.i2l, 1, 0, 0, none, [])), (79, (.lconst 0, 1, 0, 0, some (xJ 0), [])), (80, (.aload_n 0, 1, 0, 0, none, [])), (81, (.getfield 13, 3, 7, 1, some (xA none), [])), (84, (.iload_n 3, 1, 3, 0, none, [])), (85, (.iaload, 1, 0, 0, none, [])), (86, (.i2l, 1, 0, 0, none, []))]),
  (111, [(87, (.invokestatic 88, 3, 88, 3, some (xI 0), [])), (90, (.ifCond .ne 5, 3, 95, 0, none, [])), (93, (.iconst 4, 1, 0, 0, some (xI 4), [])), (94, (.ireturn, 1, 0, 0, none, [])), (95, (.aload_n 0, 1, 0, 0, none, [])), (96, (.aload_n 0, 1, 0, 0, none, [])), (97, (.getfield 30, 3, 7, 6, some (xI 0), [])), (100, (.aload_n 0, 1, 0, 0, none, [])), (101, (.getfield 7, 3, 7, 0, some (xA none), [])), (104, (.iload_n 3, 1, 3, 0, none, [])), (105, (.iaload, 1, 0, 0, none, [])), (106, (.invokevirtual 236, 3, 125, 115, some (xI 0), [])), (109, (.istore 4, 2, 4, 0, none, []))]),
  (134, [(111, (.iload 4, 2, 4, 0, none, [])), (113, (.aload_n 0, 1, 0, 0, none, [])), (114, (.getfield 13, 3, 7, 1, some (xA none), [])), (117, (.aload_n 0, 1, 0, 0, none, [])), (118, (.getfield 30, 3, 7, 6, some (xI 0), [])), (121, (.iaload, 1, 0, 0, none, [])), (122, (.if_icmp .ge 12, 3, 134, 0, none, [])), (125, (.aload_n 0, 1, 0, 0, none, [])), (126, (.iload 4, 2, 4, 0, none, [])), (128, (.i2l, 1, 0, 0, none, [])), (129, (.putfield 189, 3, 7, 10, some (xJ 0), [])), (132, (.iconst 5, 1, 0, 0, some (xI 5), [])), (133, (.ireturn, 1, 0, 0, none, []))]),
  (156, [(134, (.aload_n 0, 1, 0, 0, none, [])), (135, (.bipush (-6), 2, 0, 0, some (xI (-6)), [])), (137, (.invokevirtual 148, 3, 92, 114, some (xI 0), [])), (140, (.istore 5, 2, 5, 0, none, [])), (142, (.aload_n 0, 1, 0, 0, none, [])), (143, (.iload 5, 2, 5, 0, none, [])), (145, (.aload_n 0, 1, 0, 0, none, [])), (146, (.getfield 7, 3, 7, 0, some (xA none), [])), (149, (.iload_n 3, 1, 3, 0, none, [])), (150, (.iaload, 1, 0, 0, none, [])), (151, (.aload_n 0, 1, 0, 0, none, [])), (152, (.getfield 13, 3, 7, 1, some (xA none), [])), (155, (.iload_n 3, 1, 3, 0, none, []))]),
  (179, [(156, (.iaload, 1, 0, 0, none, [])), (157, (.aload_n 0, 1, 0, 0, none, [])), (158, (.getfield 13, 3, 7, 1, some (xA none), [])), (161, (.aload_n 0, 1, 0, 0, none, [])), (162, (.getfield 30, 3, 7, 6, some (xI 0), [])), (165, (.iaload, 1, 0, 0, none, [])), (166, (.iadd, 1, 0, 0, none, [])), (167, (.invokevirtual 152, 3, 93, 116, none, [])), (170, (.iconst 0, 1, 0, 0, some (xI 0), [])), (171, (.istore 6, 2, 6, 0, none, [])), (173, (.iload 6, 2, 6, 0, none, [true, true, true, true, false, true, true])), (175, (.aload_n 0, 1, 0, 0, none, [])), (176, (.getfield 13, 3, 7, 1, some (xA none), []))]),
  (199, [(179, (.iload_n 3, 1, 3, 0, none, [])), (180, (.iaload, 1, 0, 0, none, [])), (181, (.if_icmp .ge 49, 3, 230, 0, none, [])), (184, (.aload_n 0, 1, 0, 0, none, [])), (185, (.bipush 24, 2, 0, 0, some (xI 24), [])), (187, (.iload_n 3, 1, 3, 0, none, [])), (188, (.imul, 1, 0, 0, none, [])), (189, (.iload 6, 2, 6, 0, none, [])), (191, (.iadd, 1, 0, 0, none, [])), (192, (.bipush 24, 2, 0, 0, some (xI 24), [])), (194, (.iload 5, 2, 5, 0, none, [])), (196, (.imul, 1, 0, 0, none, [])), (197, (.iload 6, 2, 6, 0, none, []))]),
  (224, [(199, (.iload_n 2, 1, 2, 0, none, [])), (200, (.if_icmp .ge 8, 3, 208, 0, none, [])), (203, (.iload 6, 2, 6, 0, none, [])), (205, (.goto 15, 3, 220, 0, none, [])), (208, (.iload 6, 2, 6, 0, none, [])), (210, (.aload_n 0, 1, 0, 0, none, [])), (211, (.getfield 13, 3, 7, 1, some (xA none), [])), (214, (.aload_n 0, 1, 0, 0, none, [])), (215, (.getfield 30, 3, 7, 6, some (xI 0), [])), (218, (.iaload, 1, 0, 0, none, [])), (219, (.iadd, 1, 0, 0, none, [])), (220, (.iadd, 1, 0, 0, none, [])), (221, (.invokevirtual 163, 3, 95, 115, none, []))]),
  (249, [(224, (.iinc 6 1, 3, 6, 0, some (xI (1)), [])), (227, (.goto (-54), 3, 173, 0, none, [])), (230, (.iconst 0, 1, 0, 0, some (xI 0), [])), (231, (.istore 6, 2, 6, 0, none, [])), (233, (.iload 6, 2, 6, 0, none, [true, true, true, false, false, true, true])), (235, (.aload_n 0, 1, 0, 0, none, [])), (236, (.getfield 13, 3, 7, 1, some (xA none), [])), (239, (.aload_n 0, 1, 0, 0, none, [])), (240, (.getfield 30, 3, 7, 6, some (xI 0), [])), (243, (.iaload, 1, 0, 0, none, [])), (244, (.if_icmp .ge 25, 3, 269, 0, none, [])), (247, (.aload_n 0, 1, 0, 0, none, [])), (248, (.aload_n 0, 1, 0, 0, none, []))]),
  (276, [(249, (.getfield 30, 3, 7, 6, some (xI 0), [])), (252, (.iload 6, 2, 6, 0, none, [])), (254, (.iload 5, 2, 5, 0, none, [])), (256, (.iload_n 2, 1, 2, 0, none, [])), (257, (.iload 6, 2, 6, 0, none, [])), (259, (.iadd, 1, 0, 0, none, [])), (260, (.invokevirtual 239, 3, 126, 117, none, [])), (263, (.iinc 6 1, 3, 6, 0, some (xI (1)), [])), (266, (.goto (-33), 3, 233, 0, none, [])), (269, (.aload_n 0, 1, 0, 0, none, [])), (270, (.getfield 27, 3, 7, 5, some (xA none), [])), (273, (.iload_n 1, 1, 1, 0, none, [])), (274, (.iload 5, 2, 5, 0, none, []))]),
  (279, [(276, (.iastore, 1, 0, 0, none, [])), (277, (.iconst 0, 1, 0, 0, some (xI 0), [])), (278, (.ireturn, 1, 0, 0, none, []))])]
def xc_128 : List (Nat × List (Nat × xEn)) := [(15, [(0, (.iload_n 1, 1, 1, 0, none, [])), (1, (.invokestatic 138, 3, 89, 1, some (xI 0), [])), (4, (.ifCond .ne 5, 3, 9, 0, none, [])), (7, (.iconst (-1), 1, 0, 0, some (xI (-1)), [])), (8, (.ireturn, 1, 0, 0, none, [])), (9, (.iload_n 2, 1, 2, 0, none, [])), (10, (.i2l, 1, 0, 0, none, [])), (11, (.lconst 0, 1, 0, 0, some (xJ 0), [])), (12, (.ldc2_w 243, 3, 0, 0, some (xJ (12)), []))]),
  (33, [(15, (.invokestatic 88, 3, 88, 3, some (xI 0), [])), (18, (.ifCond .ne 6, 3, 24, 0, none, [])), (21, (.bipush (-2), 2, 0, 0, some (xI (-2)), [])), (23, (.ireturn, 1, 0, 0, none, [])), (24, (.aload_n 0, 1, 0, 0, none, [])), (25, (.iload_n 1, 1, 1, 0, none, [])), (26, (.invokevirtual 160, 3, 91, 114, some (xI 0), [])), (29, (.ifCond .eq 9, 3, 38, 0, none, [])), (32, (.aload_n 0, 1, 0, 0, none, []))]),
  (46, [(33, (.iload_n 1, 1, 1, 0, none, [])), (34, (.invokevirtual 160, 3, 91, 114, some (xI 0), [])), (37, (.ireturn, 1, 0, 0, none, [])), (38, (.aload_n 0, 1, 0, 0, none, [])), (39, (.getfield 27, 3, 7, 5, some (xA none), [])), (42, (.iload_n 1, 1, 1, 0, none, [])), (43, (.iaload, 1, 0, 0, none, [])), (44, (.istore_n 3, 1, 3, 0, none, [])), (45, (.aload_n 0, 1, 0, 0, none, []))]),
  (61, [(46, (.iload_n 3, 1, 3, 0, none, [])), (47, (.iload_n 2, 1, 2, 0, none, [])), (48, (.invokevirtual 236, 3, 125, 115, some (xI 0), [])), (51, (.istore 4, 2, 4, 0, none, [])), (53, (.iload 4, 2, 4, 0, none, [])), (55, (.aload_n 0, 1, 0, 0, none, [])), (56, (.getfield 13, 3, 7, 1, some (xA none), [])), (59, (.iload_n 3, 1, 3, 0, none, [])), (60, (.iaload, 1, 0, 0, none, []))]),
  (76, [(61, (.if_icmp .ge 12, 3, 73, 0, none, [])), (64, (.aload_n 0, 1, 0, 0, none, [])), (65, (.iload 4, 2, 4, 0, none, [])), (67, (.i2l, 1, 0, 0, none, [])), (68, (.putfield 189, 3, 7, 10, some (xJ 0), [])), (71, (.iconst 5, 1, 0, 0, some (xI 5), [])), (72, (.ireturn, 1, 0, 0, none, [])), (73, (.aload_n 0, 1, 0, 0, none, [])), (74, (.bipush (-6), 2, 0, 0, some (xI (-6)), []))]),
  (91, [(76, (.invokevirtual 148, 3, 92, 114, some (xI 0), [])), (79, (.istore 5, 2, 5, 0, none, [])), (81, (.aload_n 0, 1, 0, 0, none, [])), (82, (.iload 5, 2, 5, 0, none, [])), (84, (.iload_n 2, 1, 2, 0, none, [])), (85, (.aload_n 0, 1, 0, 0, none, [])), (86, (.getfield 13, 3, 7, 1, some (xA none), [])), (89, (.iload_n 3, 1, 3, 0, none, [])), (90, (.iaload, 1, 0, 0, none, []))]),
  (108, [(91, (.invokevirtual 152, 3, 93, 116, none, [])), (94, (.iconst 0, 1, 0, 0, some (xI 0), [])), (95, (.istore 6, 2, 6, 0, none, [])), (97, (.iload 6, 2, 6, 0, none, [true, true, false, true, false, true, true])), (99, (.aload_n 0, 1, 0, 0, none, [])), (100, (.getfield 13, 3, 7, 1, some (xA none), [])), (103, (.iload_n 3, 1, 3, 0, none, [])), (104, (.iaload, 1, 0, 0, none, [])), (105, (.if_icmp .ge 20, 3, 125, 0, none, []))]),
  (126, [(108, (.aload_n 0, 1, 0, 0, none, [])), (109, (.iload_n 3, 1, 3, 0, none, [])), (110, (.iload 6, 2, 6, 0, none, [])), (112, (.iload 5, 2, 5, 0, none, [])), (114, (.iload 6, 2, 6, 0, none, [])), (116, (.invokevirtual 239, 3, 126, 117, none, [])), (119, (.iinc 6 1, 3, 6, 0, some (xI (1)), [])), (122, (.goto (-25), 3, 97, 0, none, [])), (125, (.aload_n 0, 1, 0, 0, none, []))]),
  (135, [(126, (.getfield 27, 3, 7, 5, some (xA none), [])), (129, (.iload_n 1, 1, 1, 0, none, [])), (130, (.iload 5, 2, 5, 0, none, [])), (132, (.iastore, 1, 0, 0, none, [])), (133, (.iconst 0, 1, 0, 0, some (xI 0), [])), (134, (.ireturn, 1, 0, 0, none, []))])]
def xc_129 : List (Nat × List (Nat × xEn)) := [(11, [(0, (.iload_n 1, 1, 1, 0, none, [])), (1, (.invokestatic 138, 3, 89, 1, some (xI 0), [])), (4, (.ifCond .ne 5, 3, 9, 0, none, [])), (7, (.iconst (-1), 1, 0, 0, some (xI (-1)), [])), (8, (.ireturn, 1, 0, 0, none, [])), (9, (.iconst 0, 1, 0, 0, some (xI 0), [])), (10, (.istore_n 2, 1, 2, 0, none, []))]),
  (21, [(11, (.iconst 0, 1, 0, 0, some (xI 0), [])), (12, (.istore_n 3, 1, 3, 0, none, [])), (13, (.iload_n 3, 1, 3, 0, none, [true, true, true, true])), (14, (.bipush 13, 2, 0, 0, some (xI 13), [])), (16, (.if_icmp .ge 52, 3, 68, 0, none, [])), (19, (.aload_n 0, 1, 0, 0, none, [])), (20, (.iload_n 1, 1, 1, 0, none, []))]),
  (34, [(21, (.invokevirtual 94, 3, 90, 114, some (xI 0), [])), (24, (.ifCond .eq 44, 3, 68, 0, none, [])), (27, (.iload_n 2, 1, 2, 0, none, [])), (28, (.aload_n 0, 1, 0, 0, none, [])), (29, (.aload_n 0, 1, 0, 0, none, [])), (30, (.getfield 27, 3, 7, 5, some (xA none), [])), (33, (.iload_n 1, 1, 1, 0, none, []))]),
  (47, [(34, (.iaload, 1, 0, 0, none, [])), (35, (.iload_n 3, 1, 3, 0, none, [])), (36, (.invokevirtual 236, 3, 125, 115, some (xI 0), [])), (39, (.aload_n 0, 1, 0, 0, none, [])), (40, (.getfield 13, 3, 7, 1, some (xA none), [])), (43, (.aload_n 0, 1, 0, 0, none, [])), (44, (.getfield 27, 3, 7, 5, some (xA none), []))]),
  (56, [(47, (.iload_n 1, 1, 1, 0, none, [])), (48, (.iaload, 1, 0, 0, none, [])), (49, (.iaload, 1, 0, 0, none, [])), (50, (.if_icmp .ne 9, 3, 59, 0, none, [])), (53, (.iconst 1, 1, 0, 0, some (xI 1), [])), (54, (.iload_n 3, 1, 3, 0, none, [])), (55, (.ishl, 1, 0, 0, none, []))]),
  (69, [(56, (.goto 4, 3, 60, 0, none, [])), (59, (.iconst 0, 1, 0, 0, some (xI 0), [])), (60, (.ior, 1, 0, 0, none, [])), (61, (.istore_n 2, 1, 2, 0, none, [])), (62, (.iinc 3 1, 3, 3, 0, some (xI (1)), [])), (65, (.goto (-52), 3, 13, 0, none, [])), (68, (.iload_n 2, 1, 2, 0, none, []))]),
  (70, [(69, (.ireturn, 1, 0, 0, none, []))])]
def xc_130 : List (Nat × List (Nat × xEn)) := [(13, [(0, (.iload 5, 2, 5, 0, none, [])), (2, (.bipush 8, 2, 0, 0, some (xI 8), [])), (4, (.if_icmp .ne 29, 3, 33, 0, none, [])), (7, (.aload_n 0, 1, 0, 0, none, [])), (8, (.iload_n 1, 1, 1, 0, none, [])), (9, (.iload_n 2, 1, 2, 0, none, [])), (10, (.invokevirtual 222, 3, 116, 115, some (xI 0), []))]),
  (27, [(13, (.istore 6, 2, 6, 0, none, [])), (15, (.iload 6, 2, 6, 0, none, [])), (17, (.ifCond .ne 13, 3, 30, 0, none, [])), (20, (.aload_n 0, 1, 0, 0, none, [])), (21, (.iload_n 3, 1, 3, 0, none, [])), (22, (.iload 4, 2, 4, 0, none, [])), (24, (.invokevirtual 225, 3, 117, 115, some (xI 0), []))]),
  (38, [(27, (.goto 5, 3, 32, 0, none, [])), (30, (.iload 6, 2, 6, 0, none, [])), (32, (.ireturn, 1, 0, 0, none, [])), (33, (.aload_n 0, 1, 0, 0, none, [])), (34, (.iload 5, 2, 5, 0, none, [])), (36, (.aload_n 0, 1, 0, 0, none, [])), (37, (.iload_n 1, 1, 1, 0, none, []))]),
  (54, [(38, (.iload_n 2, 1, 2, 0, none, [])), (39, (.iload 5, 2, 5, 0, none, [])), (41, (.invokevirtual 194, 3, 108, 116, some (xI 0), [])), (44, (.invokevirtual 167, 3, 106, 115, some (xI 0), [])), (47, (.istore 6, 2, 6, 0, none, [])), (49, (.iload 6, 2, 6, 0, none, [])), (51, (.ifCond .ne 32, 3, 83, 0, none, []))]),
  (64, [(54, (.aload_n 0, 1, 0, 0, none, [])), (55, (.bipush 9, 2, 0, 0, some (xI 9), [])), (57, (.iload 5, 2, 5, 0, none, [])), (59, (.iadd, 1, 0, 0, none, [])), (60, (.aload_n 0, 1, 0, 0, none, [])), (61, (.iload_n 3, 1, 3, 0, none, [])), (62, (.iload 4, 2, 4, 0, none, []))]),
  (80, [(64, (.iload 5, 2, 5, 0, none, [])), (66, (.aload_n 0, 1, 0, 0, none, [])), (67, (.getfield 175, 3, 7, 21, some (xJ 0), [])), (70, (.aload_n 0, 1, 0, 0, none, [])), (71, (.getfield 182, 3, 7, 22, some (xD 0), [])), (74, (.invokevirtual 206, 3, 111, 118, some (xI 0), [])), (77, (.invokevirtual 167, 3, 106, 115, some (xI 0), []))]),
  (86, [(80, (.goto 5, 3, 85, 0, none, [])), (83, (.iload 6, 2, 6, 0, none, [])), (85, (.ireturn, 1, 0, 0, none, []))])]
def xc_131 : List (Nat × List (Nat × xEn)) := [(15, [(0, (.iload_n 1, 1, 1, 0, none, [])), (1, (.invokestatic 138, 3, 89, 1, some (xI 0), [])), (4, (.ifCond .eq 10, 3, 14, 0, none, [])), (7, (.iload_n 3, 1, 3, 0, none, [])), (8, (.invokestatic 138, 3, 89, 1, some (xI 0), [])), (11, (.ifCond .ne 5, 3, 16, 0, none, [])), (14, (.iconst (-1), 1, 0, 0, some (xI (-1)), []))]),
  (29, [(15, (.ireturn, 1, 0, 0, none, [])), (16, (.iload 5, 2, 5, 0, none, [])), (18, (.i2l, 1, 0, 0, none, [])), (19, (.lconst 0, 1, 0, 0, some (xJ 0), [])), (20, (.ldc2_w 245, 3, 0, 0, some (xJ (8)), [])), (23, (.invokestatic 88, 3, 88, 3, some (xI 0), [])), (26, (.ifCond .ne 6, 3, 32, 0, none, []))]),
  (40, [(29, (.bipush (-2), 2, 0, 0, some (xI (-2)), [])), (31, (.ireturn, 1, 0, 0, none, [])), (32, (.iconst 0, 1, 0, 0, some (xI 0), [])), (33, (.istore 6, 2, 6, 0, none, [])), (35, (.aload_n 0, 1, 0, 0, none, [])), (36, (.iconst 0, 1, 0, 0, some (xI 0), [])), (37, (.putfield 47, 3, 7, 15, some (xI 0), []))]),
  (54, [(40, (.iconst 0, 1, 0, 0, some (xI 0), [])), (41, (.istore 7, 2, 7, 0, none, [])), (43, (.iload 7, 2, 7, 0, none, [true, true, true, true, true, true, true, true])), (45, (.bipush 24, 2, 0, 0, some (xI 24), [])), (47, (.if_icmp .gt 54, 3, 101, 0, none, [])), (50, (.aload_n 0, 1, 0, 0, none, [])), (51, (.getfield 47, 3, 7, 15, some (xI 0), []))]),
  (64, [(54, (.ifCond .ne 47, 3, 101, 0, none, [])), (57, (.aload_n 0, 1, 0, 0, none, [])), (58, (.aload_n 0, 1, 0, 0, none, [])), (59, (.iload_n 1, 1, 1, 0, none, [])), (60, (.iload_n 2, 1, 2, 0, none, [])), (61, (.iload 7, 2, 7, 0, none, [])), (63, (.iadd, 1, 0, 0, none, []))]),
  (78, [(64, (.iload_n 3, 1, 3, 0, none, [])), (65, (.iload 4, 2, 4, 0, none, [])), (67, (.iload 7, 2, 7, 0, none, [])), (69, (.iadd, 1, 0, 0, none, [])), (70, (.iload 5, 2, 5, 0, none, [])), (72, (.invokevirtual 247, 3, 130, 118, some (xI 0), [])), (75, (.putfield 47, 3, 7, 15, some (xI 0), []))]),
  (92, [(78, (.iload 6, 2, 6, 0, none, [])), (80, (.aload_n 0, 1, 0, 0, none, [])), (81, (.getfield 47, 3, 7, 15, some (xI 0), [])), (84, (.ifCond .ne 7, 3, 91, 0, none, [])), (87, (.iconst 1, 1, 0, 0, some (xI 1), [])), (88, (.goto 4, 3, 92, 0, none, [])), (91, (.iconst 0, 1, 0, 0, some (xI 0), []))]),
  (104, [(92, (.iadd, 1, 0, 0, none, [])), (93, (.istore 6, 2, 6, 0, none, [])), (95, (.iinc 7 1, 3, 7, 0, some (xI (1)), [])), (98, (.goto (-55), 3, 43, 0, none, [])), (101, (.iload 6, 2, 6, 0, none, [])), (103, (.ireturn, 1, 0, 0, none, []))])]
def xc_132 : List (Nat × List (Nat × xEn)) := [(11, [(0, (.iconst 0, 1, 0, 0, some (xI 0), [])), (1, (.istore 4, 2, 4, 0, none, [])), (3, (.aload_n 0, 1, 0, 0, none, [])), (4, (.iconst 0, 1, 0, 0, some (xI 0), [])), (5, (.putfield 251, 3, 7, 25, some (xI 0), [])), (8, (.iconst 0, 1, 0, 0, some (xI 0), [])), (9, (.istore 5, 2, 5, 0, none, []))]),
  (25, [(11, (.iload 5, 2, 5, 0, none, [true, true, true, true, true, true])), (13, (.bipush 24, 2, 0, 0, some (xI 24), [])), (15, (.if_icmp .gt 70, 3, 85, 0, none, [])), (18, (.iload 4, 2, 4, 0, none, [])), (20, (.ifCond .ne 65, 3, 85, 0, none, [])), (23, (.aload_n 0, 1, 0, 0, none, [])), (24, (.iload_n 2, 1, 2, 0, none, []))]),
  (38, [(25, (.aload_n 0, 1, 0, 0, none, [])), (26, (.iload_n 1, 1, 1, 0, none, [])), (27, (.iload 5, 2, 5, 0, none, [])), (29, (.iload_n 2, 1, 2, 0, none, [])), (30, (.invokevirtual 194, 3, 108, 116, some (xI 0), [])), (33, (.invokevirtual 167, 3, 106, 115, some (xI 0), [])), (36, (.istore 4, 2, 4, 0, none, []))]),
  (51, [(38, (.iload 4, 2, 4, 0, none, [])), (40, (.ifCond .ne 39, 3, 79, 0, none, [])), (43, (.aload_n 0, 1, 0, 0, none, [])), (44, (.getfield 56, 3, 7, 23, some (xA none), [])), (47, (.iload_n 3, 1, 3, 0, none, [])), (48, (.iload 5, 2, 5, 0, none, [])), (50, (.iadd, 1, 0, 0, none, []))]),
  (63, [(51, (.aload_n 0, 1, 0, 0, none, [])), (52, (.getfield 175, 3, 7, 21, some (xJ 0), [])), (55, (.lastore, 1, 0, 0, none, [])), (56, (.aload_n 0, 1, 0, 0, none, [])), (57, (.getfield 59, 3, 7, 24, some (xA none), [])), (60, (.iload_n 3, 1, 3, 0, none, [])), (61, (.iload 5, 2, 5, 0, none, []))]),
  (74, [(63, (.iadd, 1, 0, 0, none, [])), (64, (.aload_n 0, 1, 0, 0, none, [])), (65, (.getfield 182, 3, 7, 22, some (xD 0), [])), (68, (.dastore, 1, 0, 0, none, [])), (69, (.aload_n 0, 1, 0, 0, none, [])), (70, (.dup, 1, 0, 0, none, [])), (71, (.getfield 251, 3, 7, 25, some (xI 0), []))]),
  (88, [(74, (.iconst 1, 1, 0, 0, some (xI 1), [])), (75, (.iadd, 1, 0, 0, none, [])), (76, (.putfield 251, 3, 7, 25, some (xI 0), [])), (79, (.iinc 5 1, 3, 5, 0, some (xI (1)), [])), (82, (.goto (-71), 3, 11, 0, none, [])), (85, (.iload 4, 2, 4, 0, none, [])), (87, (.ireturn, 1, 0, 0, none, []))])]
def xc_133 : List (Nat × List (Nat × xEn)) := [(15, [(0, (.iload_n 1, 1, 1, 0, none, [])), (1, (.invokestatic 138, 3, 89, 1, some (xI 0), [])), (4, (.ifCond .ne 5, 3, 9, 0, none, [])), (7, (.iconst (-1), 1, 0, 0, some (xI (-1)), [])), (8, (.ireturn, 1, 0, 0, none, [])), (9, (.iload_n 2, 1, 2, 0, none, [])), (10, (.i2l, 1, 0, 0, none, [])), (11, (.lconst 1, 1, 0, 0, some (xJ 1), [])), (12, (.ldc2_w 192, 3, 0, 0, some (xJ (7)), []))]),
  (29, [(15, (.invokestatic 88, 3, 88, 3, some (xI 0), [])), (18, (.ifCond .ne 6, 3, 24, 0, none, [])), (21, (.bipush (-2), 2, 0, 0, some (xI (-2)), [])), (23, (.ireturn, 1, 0, 0, none, [])), (24, (.aload_n 0, 1, 0, 0, none, [])), (25, (.aload_n 0, 1, 0, 0, none, [])), (26, (.iload_n 1, 1, 1, 0, none, [])), (27, (.iload_n 2, 1, 2, 0, none, [])), (28, (.iconst 0, 1, 0, 0, some (xI 0), []))]),
  (49, [(29, (.invokevirtual 254, 3, 132, 116, some (xI 0), [])), (32, (.putfield 47, 3, 7, 15, some (xI 0), [])), (35, (.aload_n 0, 1, 0, 0, none, [])), (36, (.getfield 47, 3, 7, 15, some (xI 0), [])), (39, (.iconst 4, 1, 0, 0, some (xI 4), [])), (40, (.if_icmp .eq 11, 3, 51, 0, none, [])), (43, (.bipush (-10), 2, 0, 0, some (xI (-10)), [])), (45, (.aload_n 0, 1, 0, 0, none, [])), (46, (.getfield 47, 3, 7, 15, some (xI 0), []))]),
  (60, [(49, (.isub, 1, 0, 0, none, [])), (50, (.ireturn, 1, 0, 0, none, [])), (51, (.lconst 0, 1, 0, 0, some (xJ 0), [])), (52, (.lstore_n 3, 1, 3, 0, none, [])), (53, (.fconst 0, 1, 0, 0, some (xF 0), [])), (54, (.fstore 5, 2, 5, 0, none, [])), (56, (.dconst 0, 1, 0, 0, some (xD 0), [])), (57, (.dstore 6, 2, 6, 0, none, [])), (59, (.iconst 0, 1, 0, 0, some (xI 0), []))]),
  (78, [(60, (.istore 8, 2, 8, 0, none, [])), (62, (.iload 8, 2, 8, 0, none, [true, false, true, true, false, true, true, false, true])), (64, (.aload_n 0, 1, 0, 0, none, [])), (65, (.getfield 251, 3, 7, 25, some (xI 0), [])), (68, (.if_icmp .ge 44, 3, 112, 0, none, [])), (71, (.lload_n 3, 1, 3, 0, none, [])), (72, (.aload_n 0, 1, 0, 0, none, [])), (73, (.getfield 56, 3, 7, 23, some (xA none), [])), (76, (.iload 8, 2, 8, 0, none, []))]),
  (91, [(78, (.laload, 1, 0, 0, none, [])), (79, (.ladd, 1, 0, 0, none, [])), (80, (.lstore_n 3, 1, 3, 0, none, [])), (81, (.fload 5, 2, 5, 0, none, [])), (83, (.aload_n 0, 1, 0, 0, none, [])), (84, (.getfield 59, 3, 7, 24, some (xA none), [])), (87, (.iload 8, 2, 8, 0, none, [])), (89, (.daload, 1, 0, 0, none, [])), (90, (.d2f, 1, 0, 0, none, []))]),
  (106, [(91, (.fadd, 1, 0, 0, none, [])), (92, (.fstore 5, 2, 5, 0, none, [])), (94, (.dload 6, 2, 6, 0, none, [])), (96, (.aload_n 0, 1, 0, 0, none, [])), (97, (.getfield 59, 3, 7, 24, some (xA none), [])), (100, (.iload 8, 2, 8, 0, none, [])), (102, (.daload, 1, 0, 0, none, [])), (103, (.dadd, 1, 0, 0, none, [])), (104, (.dstore 6, 2, 6, 0, none, []))]),
  (125, [(106, (.iinc 8 1, 3, 8, 0, some (xI (1)), [])), (109, (.goto (-47), 3, 62, 0, none, [])), (112, (.aload_n 0, 1, 0, 0, none, [])), (113, (.iload_n 2, 1, 2, 0, none, [])), (114, (.bipush 6, 2, 0, 0, some (xI 6), [])), (116, (.if_icmp .ne 13, 3, 129, 0, none, [])), (119, (.fload 5, 2, 5, 0, none, [])), (121, (.f2d, 1, 0, 0, none, [])), (122, (.invokestatic 130, 3, 99, 1, some (xI 0), []))]),
  (144, [(125, (.i2l, 1, 0, 0, none, [])), (126, (.goto 18, 3, 144, 0, none, [])), (129, (.iload_n 2, 1, 2, 0, none, [])), (130, (.bipush 7, 2, 0, 0, some (xI 7), [])), (132, (.if_icmp .ne 11, 3, 143, 0, none, [])), (135, (.dload 6, 2, 6, 0, none, [])), (137, (.invokestatic 134, 3, 100, 1, some (xJ 0), [])), (140, (.goto 4, 3, 144, 0, none, [])), (143, (.lload_n 3, 1, 3, 0, none, []))]),
  (149, [(144, (.putfield 189, 3, 7, 10, some (xJ 0), [])), (147, (.iconst 0, 1, 0, 0, some (xI 0), [])), (148, (.ireturn, 1, 0, 0, none, []))])]
def xc_134 : List (Nat × List (Nat × xEn)) := [(10, [(0, (.iload_n 0, 1, 0, 0, none, [])), (1, (.bipush 6, 2, 0, 0, some (xI 6), [])), (3, (.if_icmp .ge 27, 3, 30, 0, none, [])), (6, (.lload_n 1, 1, 1, 0, none, [])), (7, (.lload 5, 2, 5, 0, none, [])), (9, (.lcmp, 1, 0, 0, none, []))]),
  (21, [(10, (.ifCond .ge 7, 3, 17, 0, none, [])), (13, (.iconst 0, 1, 0, 0, some (xI 0), [])), (14, (.goto 15, 3, 29, 0, none, [])), (17, (.lload_n 1, 1, 1, 0, none, [])), (18, (.lload 5, 2, 5, 0, none, [])), (20, (.lcmp, 1, 0, 0, none, []))]),
  (31, [(21, (.ifCond .ne 7, 3, 28, 0, none, [])), (24, (.iconst 1, 1, 0, 0, some (xI 1), [])), (25, (.goto 4, 3, 29, 0, none, [])), (28, (.iconst 2, 1, 0, 0, some (xI 2), [])), (29, (.ireturn, 1, 0, 0, none, [])), (30, (.dload_n 3, 1, 3, 0, none, []))]),
  (42, [(31, (.dload 7, 2, 7, 0, none, [])), (33, (.dcmp .g, 1, 0, 0, none, [])), (34, (.ifCond .ge 7, 3, 41, 0, none, [])), (37, (.iconst 0, 1, 0, 0, some (xI 0), [])), (38, (.goto 15, 3, 53, 0, none, [])), (41, (.dload_n 3, 1, 3, 0, none, []))]),
  (53, [(42, (.dload 7, 2, 7, 0, none, [])), (44, (.dcmp .l, 1, 0, 0, none, [])), (45, (.ifCond .ne 7, 3, 52, 0, none, [])), (48, (.iconst 1, 1, 0, 0, some (xI 1), [])), (49, (.goto 4, 3, 53, 0, none, [])), (52, (.iconst 2, 1, 0, 0, some (xI 2), []))]),
  (54, [(53, (.ireturn, 1, 0, 0, none, []))])]
def xc_135 : List (Nat × List (Nat × xEn)) := [(18, [(0, (.iload_n 1, 1, 1, 0, none, [])), (1, (.invokestatic 138, 3, 89, 1, some (xI 0), [])), (4, (.ifCond .ne 5, 3, 9, 0, none, [])), (7, (.iconst (-1), 1, 0, 0, some (xI (-1)), [])), (8, (.ireturn, 1, 0, 0, none, [])), (9, (.iload_n 2, 1, 2, 0, none, [])), (10, (.i2l, 1, 0, 0, none, [])), (11, (.lconst 0, 1, 0, 0, some (xJ 0), [])), (12, (.ldc2_w 192, 3, 0, 0, some (xJ (7)), [])), (15, (.invokestatic 88, 3, 88, 3, some (xI 0), []))]),
  (37, [(18, (.ifCond .eq 15, 3, 33, 0, none, [])), (21, (.iload_n 3, 1, 3, 0, none, [])), (22, (.i2l, 1, 0, 0, none, [])), (23, (.lconst 0, 1, 0, 0, some (xJ 0), [])), (24, (.ldc2_w 257, 3, 0, 0, some (xJ (2)), [])), (27, (.invokestatic 88, 3, 88, 3, some (xI 0), [])), (30, (.ifCond .ne 6, 3, 36, 0, none, [])), (33, (.bipush (-2), 2, 0, 0, some (xI (-2)), [])), (35, (.ireturn, 1, 0, 0, none, [])), (36, (.aload_n 0, 1, 0, 0, none, []))]),
  (55, [(37, (.aload_n 0, 1, 0, 0, none, [])), (38, (.iload_n 1, 1, 1, 0, none, [])), (39, (.iload_n 2, 1, 2, 0, none, [])), (40, (.iconst 0, 1, 0, 0, some (xI 0), [])), (41, (.invokevirtual 254, 3, 132, 116, some (xI 0), [])), (44, (.putfield 47, 3, 7, 15, some (xI 0), [])), (47, (.aload_n 0, 1, 0, 0, none, [])), (48, (.getfield 47, 3, 7, 15, some (xI 0), [])), (51, (.iconst 4, 1, 0, 0, some (xI 4), [])), (52, (.if_icmp .eq 11, 3, 63, 0, none, []))]),
  (71, [(55, (.bipush (-10), 2, 0, 0, some (xI (-10)), [])), (57, (.aload_n 0, 1, 0, 0, none, [])), (58, (.getfield 47, 3, 7, 15, some (xI 0), [])), (61, (.isub, 1, 0, 0, none, [])), (62, (.ireturn, 1, 0, 0, none, [])), (63, (.aload_n 0, 1, 0, 0, none, [])), (64, (.iload_n 2, 1, 2, 0, none, [])), (65, (.bipush 6, 2, 0, 0, some (xI 6), [])), (67, (.if_icmp .ge 7, 3, 74, 0, none, [])), (70, (.iconst 5, 1, 0, 0, some (xI 5), []))]),
  (90, [(71, (.goto 4, 3, 75, 0, none, [])), (74, (.iload_n 2, 1, 2, 0, none, [])), (75, (.lload 4, 2, 4, 0, none, [])), (77, (.invokevirtual 202, 3, 96, 115, none, [])), (80, (.aload_n 0, 1, 0, 0, none, [])), (81, (.iconst 0, 1, 0, 0, some (xI 0), [])), (82, (.putfield 259, 3, 7, 18, some (xI 0), [])), (85, (.iconst 0, 1, 0, 0, some (xI 0), [])), (86, (.istore 6, 2, 6, 0, none, [])), (88, (.iload 6, 2, 6, 0, none, [true, false, true, true, false, false, true]))]),
  (109, [(90, (.aload_n 0, 1, 0, 0, none, [])), (91, (.getfield 251, 3, 7, 25, some (xI 0), [])), (94, (.if_icmp .ge 71, 3, 165, 0, none, [])), (97, (.iload_n 2, 1, 2, 0, none, [])), (98, (.aload_n 0, 1, 0, 0, none, [])), (99, (.getfield 56, 3, 7, 23, some (xA none), [])), (102, (.iload 6, 2, 6, 0, none, [])), (104, (.laload, 1, 0, 0, none, [])), (105, (.aload_n 0, 1, 0, 0, none, [])), (106, (.getfield 59, 3, 7, 24, some (xA none), []))]),
  (128, [(109, (.iload 6, 2, 6, 0, none, [])), (111, (.daload, 1, 0, 0, none, [])), (112, (.aload_n 0, 1, 0, 0, none, [])), (113, (.getfield 102, 3, 7, 19, some (xJ 0), [])), (116, (.aload_n 0, 1, 0, 0, none, [])), (117, (.getfield 106, 3, 7, 20, some (xD 0), [])), (120, (.invokestatic 262, 3, 134, 5, some (xI 0), [])), (123, (.iload_n 3, 1, 3, 0, none, [])), (124, (.if_icmp .ne 35, 3, 159, 0, none, [])), (127, (.aload_n 0, 1, 0, 0, none, []))]),
  (148, [(128, (.getfield 50, 3, 7, 16, some (xA none), [])), (131, (.aload_n 0, 1, 0, 0, none, [])), (132, (.getfield 259, 3, 7, 18, some (xI 0), [])), (135, (.iload 6, 2, 6, 0, none, [])), (137, (.iastore, 1, 0, 0, none, [])), (138, (.aload_n 0, 1, 0, 0, none, [])), (139, (.getfield 53, 3, 7, 17, some (xA none), [])), (142, (.aload_n 0, 1, 0, 0, none, [])), (143, (.getfield 259, 3, 7, 18, some (xI 0), [])), (146, (.iload 6, 2, 6, 0, none, []))]),
  (166, [(148, (.iastore, 1, 0, 0, none, [])), (149, (.aload_n 0, 1, 0, 0, none, [])), (150, (.dup, 1, 0, 0, none, [])), (151, (.getfield 259, 3, 7, 18, some (xI 0), [])), (154, (.iconst 1, 1, 0, 0, some (xI 1), [])), (155, (.iadd, 1, 0, 0, none, [])), (156, (.putfield 259, 3, 7, 18, some (xI 0), [])), (159, (.iinc 6 1, 3, 6, 0, some (xI (1)), [])), (162, (.goto (-74), 3, 88, 0, none, [])), (165, (.aload_n 0, 1, 0, 0, none, []))]),
  (170, [(166, (.getfield 259, 3, 7, 18, some (xI 0), [])), (169, (.ireturn, 1, 0, 0, none, []))])]
def xc_136 : List (Nat × List (Nat × xEn)) := [(7, [(0, (.iload_n 1, 1, 1, 0, none, [])), (1, (.aload_n 0, 1, 0, 0, none, [])), (2, (.getfield 56, 3, 7, 23, some (xA none), [])), (5, (.iload_n 2, 1, 2, 0, none, [])), (6, (.laload, 1, 0, 0, none, []))]),
  (14, [(7, (.aload_n 0, 1, 0, 0, none, [])), (8, (.getfield 59, 3, 7, 24, some (xA none), [])), (11, (.iload_n 2, 1, 2, 0, none, [])), (12, (.daload, 1, 0, 0, none, [])), (13, (.aload_n 0, 1, 0, 0, none, []))]),
  (22, [(14, (.getfield 56, 3, 7, 23, some (xA none), [])), (17, (.bipush 24, 2, 0, 0, some (xI 24), [])), (19, (.iload_n 3, 1, 3, 0, none, [])), (20, (.iadd, 1, 0, 0, none, [])), (21, (.laload, 1, 0, 0, none, []))]),
  (30, [(22, (.aload_n 0, 1, 0, 0, none, [])), (23, (.getfield 59, 3, 7, 24, some (xA none), [])), (26, (.bipush 24, 2, 0, 0, some (xI 24), [])), (28, (.iload_n 3, 1, 3, 0, none, [])), (29, (.iadd, 1, 0, 0, none, []))]),
  (39, [(30, (.daload, 1, 0, 0, none, [])), (31, (.invokestatic 262, 3, 134, 5, some (xI 0), [])), (34, (.iconst 1, 1, 0, 0, some (xI 1), [])), (35, (.if_icmp .ne 7, 3, 42, 0, none, [])), (38, (.iconst 1, 1, 0, 0, some (xI 1), []))]),
  (44, [(39, (.goto 4, 3, 43, 0, none, [])), (42, (.iconst 0, 1, 0, 0, some (xI 0), [])), (43, (.ireturn, 1, 0, 1, none, []))])]
def xc_137 : List (Nat × List (Nat × xEn)) := [(22, [(0, (.iload_n 1, 1, 1, 0, none, [])), (1, (.invokestatic 138, 3, 89, 1, some (xI 0), [])), (4, (.ifCond .eq 10, 3, 14, 0, none, [])), (7, (.iload_n 2, 1, 2, 0, none, [])), (8, (.invokestatic 138, 3, 89, 1, some (xI 0), [])), (11, (.ifCond .ne 5, 3, 16, 0, none, [])), (14, (.iconst (-1), 1, 0, 0, some (xI (-1)), [])), (15, (.ireturn, 1, 0, 0, none, [])), (16, (.iload_n 3, 1, 3, 0, none, [])), (17, (.i2l, 1, 0, 0, none, [])), (18, (.lconst 0, 1, 0, 0, some (xJ 0), [])), (19, (.ldc2_w 192, 3, 0, 0, some (xJ (7)), []))]),
  (43, [(22, (.invokestatic 88, 3, 88, 3, some (xI 0), [])), (25, (.ifCond .ne 6, 3, 31, 0, none, [])), (28, (.bipush (-2), 2, 0, 0, some (xI (-2)), [])), (30, (.ireturn, 1, 0, 0, none, [])), (31, (.aload_n 0, 1, 0, 0, none, [])), (32, (.aload_n 0, 1, 0, 0, none, [])), (33, (.iload_n 1, 1, 1, 0, none, [])), (34, (.iload_n 3, 1, 3, 0, none, [])), (35, (.iconst 0, 1, 0, 0, some (xI 0), [])), (36, (.invokevirtual 254, 3, 132, 116, some (xI 0), [])), (39, (.putfield 47, 3, 7, 15, some (xI 0), [])), (42, (.aload_n 0, 1, 0, 0, none, []))]),
  (65, [(43, (.getfield 251, 3, 7, 25, some (xI 0), [])), (46, (.istore 4, 2, 4, 0, none, [])), (48, (.aload_n 0, 1, 0, 0, none, [])), (49, (.getfield 47, 3, 7, 15, some (xI 0), [])), (52, (.iconst 4, 1, 0, 0, some (xI 4), [])), (53, (.if_icmp .ne 15, 3, 68, 0, none, [])), (56, (.aload_n 0, 1, 0, 0, none, [])), (57, (.aload_n 0, 1, 0, 0, none, [])), (58, (.iload_n 2, 1, 2, 0, none, [])), (59, (.iload_n 3, 1, 3, 0, none, [])), (60, (.bipush 24, 2, 0, 0, some (xI 24), [])), (62, (.invokevirtual 254, 3, 132, 116, some (xI 0), []))]),
  (87, [(65, (.putfield 47, 3, 7, 15, some (xI 0), [])), (68, (.aload_n 0, 1, 0, 0, none, [])), (69, (.getfield 47, 3, 7, 15, some (xI 0), [])), (72, (.iconst 4, 1, 0, 0, some (xI 4), [])), (73, (.if_icmp .eq 11, 3, 84, 0, none, [])), (76, (.bipush (-10), 2, 0, 0, some (xI (-10)), [])), (78, (.aload_n 0, 1, 0, 0, none, [])), (79, (.getfield 47, 3, 7, 15, some (xI 0), [])), (82, (.isub, 1, 0, 0, none, [])), (83, (.ireturn, 1, 0, 0, none, [])), (84, (.iconst 0, 1, 0, 0, some (xI 0), [])), (85, (.istore 5, 2, 5, 0, none, []))]),
  (108, [(87, (.iconst 0, 1, 0, 0, some (xI 0), [])), (88, (.istore 6, 2, 6, 0, none, [])), (90, (.iload 6, 2, 6, 0, none, [true, false, false, true, true, true, true])), (92, (.iload 4, 2, 4, 0, none, [])), (94, (.aload_n 0, 1, 0, 0, none, [])), (95, (.getfield 251, 3, 7, 25, some (xI 0), [])), (98, (.imul, 1, 0, 0, none, [])), (99, (.if_icmp .ge 41, 3, 140, 0, none, [])), (102, (.iload 5, 2, 5, 0, none, [])), (104, (.aload_n 0, 1, 0, 0, none, [])), (105, (.iload_n 3, 1, 3, 0, none, [])), (106, (.iload 6, 2, 6, 0, none, []))]),
  (131, [(108, (.aload_n 0, 1, 0, 0, none, [])), (109, (.getfield 251, 3, 7, 25, some (xI 0), [])), (112, (.idiv, 1, 0, 0, none, [])), (113, (.iload 6, 2, 6, 0, none, [])), (115, (.aload_n 0, 1, 0, 0, none, [])), (116, (.getfield 251, 3, 7, 25, some (xI 0), [])), (119, (.irem, 1, 0, 0, none, [])), (120, (.invokevirtual 266, 3, 136, 116, some (xI 0), [])), (123, (.ifCond .eq 7, 3, 130, 0, none, [])), (126, (.iconst 1, 1, 0, 0, some (xI 1), [])), (127, (.goto 4, 3, 131, 0, none, [])), (130, (.iconst 0, 1, 0, 0, some (xI 0), []))]),
  (155, [(131, (.iadd, 1, 0, 0, none, [])), (132, (.istore 5, 2, 5, 0, none, [])), (134, (.iinc 6 1, 3, 6, 0, some (xI (1)), [])), (137, (.goto (-47), 3, 90, 0, none, [])), (140, (.iload 5, 2, 5, 0, none, [])), (142, (.bipush 24, 2, 0, 0, some (xI 24), [])), (144, (.if_icmp .le 6, 3, 150, 0, none, [])), (147, (.bipush (-4), 2, 0, 0, some (xI (-4)), [])), (149, (.ireturn, 1, 0, 0, none, [])), (150, (.aload_n 0, 1, 0, 0, none, [])), (151, (.iconst 0, 1, 0, 0, some (xI 0), [])), (152, (.putfield 259, 3, 7, 18, some (xI 0), []))]),
  (175, [(155, (.iconst 0, 1, 0, 0, some (xI 0), [])), (156, (.istore 6, 2, 6, 0, none, [])), (158, (.iload 6, 2, 6, 0, none, [true, false, false, true, true, false, true])), (160, (.iload 4, 2, 4, 0, none, [])), (162, (.aload_n 0, 1, 0, 0, none, [])), (163, (.getfield 251, 3, 7, 25, some (xI 0), [])), (166, (.imul, 1, 0, 0, none, [])), (167, (.if_icmp .ge 73, 3, 240, 0, none, [])), (170, (.aload_n 0, 1, 0, 0, none, [])), (171, (.iload_n 3, 1, 3, 0, none, [])), (172, (.iload 6, 2, 6, 0, none, [])), (174, (.aload_n 0, 1, 0, 0, none, []))]),
  (200, [(175, (.getfield 251, 3, 7, 25, some (xI 0), [])), (178, (.idiv, 1, 0, 0, none, [])), (179, (.iload 6, 2, 6, 0, none, [])), (181, (.aload_n 0, 1, 0, 0, none, [])), (182, (.getfield 251, 3, 7, 25, some (xI 0), [])), (185, (.irem, 1, 0, 0, none, [])), (186, (.invokevirtual 266, 3, 136, 116, some (xI 0), [])), (189, (.ifCond .eq 45, 3, 234, 0, none, [])), (192, (.aload_n 0, 1, 0, 0, none, [])), (193, (.getfield 50, 3, 7, 16, some (xA none), [])), (196, (.aload_n 0, 1, 0, 0, none, [])), (197, (.getfield 259, 3, 7, 18, some (xI 0), []))]),
  (222, [(200, (.iload 6, 2, 6, 0, none, [])), (202, (.aload_n 0, 1, 0, 0, none, [])), (203, (.getfield 251, 3, 7, 25, some (xI 0), [])), (206, (.idiv, 1, 0, 0, none, [])), (207, (.iastore, 1, 0, 0, none, [])), (208, (.aload_n 0, 1, 0, 0, none, [])), (209, (.getfield 53, 3, 7, 17, some (xA none), [])), (212, (.aload_n 0, 1, 0, 0, none, [])), (213, (.getfield 259, 3, 7, 18, some (xI 0), [])), (216, (.iload 6, 2, 6, 0, none, [])), (218, (.aload_n 0, 1, 0, 0, none, [])), (219, (.getfield 251, 3, 7, 25, some (xI 0), []))]),
  (244, [(222, (.irem, 1, 0, 0, none, [])), (223, (.iastore, 1, 0, 0, none, [])), (224, (.aload_n 0, 1, 0, 0, none, [])), (225, (.dup, 1, 0, 0, none, [])), (226, (.getfield 259, 3, 7, 18, some (xI 0), [])), (229, (.iconst 1, 1, 0, 0, some (xI 1), [])), (230, (.iadd, 1, 0, 0, none, [])), (231, (.putfield 259, 3, 7, 18, some (xI 0), [])), (234, (.iinc 6 1, 3, 6, 0, some (xI (1)), [])), (237, (.goto (-79), 3, 158, 0, none, [])), (240, (.aload_n 0, 1, 0, 0, none, [])), (241, (.getfield 259, 3, 7, 18, some (xI 0), []))]),
  (245, [(244, (.ireturn, 1, 0, 0, none, []))])]
def xc_138 : List (Nat × List (Nat × xEn)) := [(10, [(0, (.iload_n 2, 1, 2, 0, none, [])), (1, (.i2l, 1, 0, 0, none, [])), (2, (.lconst 0, 1, 0, 0, some (xJ 0), [])), (3, (.lconst 1, 1, 0, 0, some (xJ 1), [])), (4, (.invokestatic 88, 3, 88, 3, some (xI 0), [])), (7, (.ifCond .ne 6, 3, 13, 0, none, []))]),
  (17, [(10, (.bipush (-2), 2, 0, 0, some (xI (-2)), [])), (12, (.ireturn, 1, 0, 0, none, [])), (13, (.iload_n 1, 1, 1, 0, none, [])), (14, (.i2l, 1, 0, 0, none, [])), (15, (.lconst 0, 1, 0, 0, some (xJ 0), [])), (16, (.aload_n 0, 1, 0, 0, none, []))]),
  (29, [(17, (.getfield 259, 3, 7, 18, some (xI 0), [])), (20, (.iconst 1, 1, 0, 0, some (xI 1), [])), (21, (.isub, 1, 0, 0, none, [])), (22, (.i2l, 1, 0, 0, none, [])), (23, (.invokestatic 88, 3, 88, 3, some (xI 0), [])), (26, (.ifCond .ne 8, 3, 34, 0, none, []))]),
  (42, [(29, (.bipush (-6), 2, 0, 0, some (xI (-6)), [])), (31, (.goto 22, 3, 53, 0, none, [])), (34, (.iload_n 2, 1, 2, 0, none, [])), (35, (.ifCond .ne 12, 3, 47, 0, none, [])), (38, (.aload_n 0, 1, 0, 0, none, [])), (39, (.getfield 50, 3, 7, 16, some (xA none), []))]),
  (52, [(42, (.iload_n 1, 1, 1, 0, none, [])), (43, (.iaload, 1, 0, 0, none, [])), (44, (.goto 9, 3, 53, 0, none, [])), (47, (.aload_n 0, 1, 0, 0, none, [])), (48, (.getfield 53, 3, 7, 17, some (xA none), [])), (51, (.iload_n 1, 1, 1, 0, none, []))]),
  (54, [(52, (.iaload, 1, 0, 0, none, [])), (53, (.ireturn, 1, 0, 0, none, []))])]
def xc_139 : List (Nat × List (Nat × xEn)) := [(18, [(0, (.iload_n 1, 1, 1, 0, none, [])), (1, (.invokestatic 138, 3, 89, 1, some (xI 0), [])), (4, (.ifCond .eq 10, 3, 14, 0, none, [])), (7, (.iload_n 3, 1, 3, 0, none, [])), (8, (.invokestatic 138, 3, 89, 1, some (xI 0), [])), (11, (.ifCond .ne 5, 3, 16, 0, none, [])), (14, (.iconst (-1), 1, 0, 0, some (xI (-1)), [])), (15, (.ireturn, 1, 0, 0, none, [])), (16, (.iload_n 2, 1, 2, 0, none, [])), (17, (.i2l, 1, 0, 0, none, []))]),
  (37, [(18, (.lconst 0, 1, 0, 0, some (xJ 0), [])), (19, (.lconst 1, 1, 0, 0, some (xJ 1), [])), (20, (.invokestatic 88, 3, 88, 3, some (xI 0), [])), (23, (.ifCond .ne 6, 3, 29, 0, none, [])), (26, (.bipush (-2), 2, 0, 0, some (xI (-2)), [])), (28, (.ireturn, 1, 0, 0, none, [])), (29, (.aload_n 0, 1, 0, 0, none, [])), (30, (.iload_n 1, 1, 1, 0, none, [])), (31, (.invokevirtual 160, 3, 91, 114, some (xI 0), [])), (34, (.ifCond .eq 9, 3, 43, 0, none, []))]),
  (52, [(37, (.aload_n 0, 1, 0, 0, none, [])), (38, (.iload_n 1, 1, 1, 0, none, [])), (39, (.invokevirtual 160, 3, 91, 114, some (xI 0), [])), (42, (.ireturn, 1, 0, 0, none, [])), (43, (.aload_n 0, 1, 0, 0, none, [])), (44, (.getfield 27, 3, 7, 5, some (xA none), [])), (47, (.iload_n 1, 1, 1, 0, none, [])), (48, (.iaload, 1, 0, 0, none, [])), (49, (.istore 4, 2, 4, 0, none, [])), (51, (.iconst 0, 1, 0, 0, some (xI 0), []))]),
  (73, [(52, (.istore 5, 2, 5, 0, none, [])), (54, (.iload 5, 2, 5, 0, none, [true, false, true, true, true, true, false])), (56, (.aload_n 0, 1, 0, 0, none, [])), (57, (.getfield 259, 3, 7, 18, some (xI 0), [])), (60, (.if_icmp .ge 42, 3, 102, 0, none, [])), (63, (.iload_n 2, 1, 2, 0, none, [])), (64, (.ifCond .ne 13, 3, 77, 0, none, [])), (67, (.aload_n 0, 1, 0, 0, none, [])), (68, (.getfield 50, 3, 7, 16, some (xA none), [])), (71, (.iload 5, 2, 5, 0, none, []))]),
  (91, [(73, (.iaload, 1, 0, 0, none, [])), (74, (.goto 10, 3, 84, 0, none, [])), (77, (.aload_n 0, 1, 0, 0, none, [])), (78, (.getfield 53, 3, 7, 17, some (xA none), [])), (81, (.iload 5, 2, 5, 0, none, [])), (83, (.iaload, 1, 0, 0, none, [])), (84, (.aload_n 0, 1, 0, 0, none, [])), (85, (.getfield 13, 3, 7, 1, some (xA none), [])), (88, (.iload 4, 2, 4, 0, none, [])), (90, (.iaload, 1, 0, 0, none, []))]),
  (111, [(91, (.if_icmp .lt 5, 3, 96, 0, none, [])), (94, (.iconst 4, 1, 0, 0, some (xI 4), [])), (95, (.ireturn, 1, 0, 0, none, [])), (96, (.iinc 5 1, 3, 5, 0, some (xI (1)), [])), (99, (.goto (-45), 3, 54, 0, none, [])), (102, (.aload_n 0, 1, 0, 0, none, [])), (103, (.bipush (-6), 2, 0, 0, some (xI (-6)), [])), (105, (.invokevirtual 148, 3, 92, 114, some (xI 0), [])), (108, (.istore 5, 2, 5, 0, none, [])), (110, (.aload_n 0, 1, 0, 0, none, []))]),
  (130, [(111, (.iload 5, 2, 5, 0, none, [])), (113, (.aload_n 0, 1, 0, 0, none, [])), (114, (.getfield 7, 3, 7, 0, some (xA none), [])), (117, (.iload 4, 2, 4, 0, none, [])), (119, (.iaload, 1, 0, 0, none, [])), (120, (.aload_n 0, 1, 0, 0, none, [])), (121, (.getfield 259, 3, 7, 18, some (xI 0), [])), (124, (.invokevirtual 152, 3, 93, 116, none, [])), (127, (.iconst 0, 1, 0, 0, some (xI 0), [])), (128, (.istore 6, 2, 6, 0, none, []))]),
  (149, [(130, (.iload 6, 2, 6, 0, none, [true, false, true, true, true, true, true])), (132, (.aload_n 0, 1, 0, 0, none, [])), (133, (.getfield 259, 3, 7, 18, some (xI 0), [])), (136, (.if_icmp .ge 48, 3, 184, 0, none, [])), (139, (.aload_n 0, 1, 0, 0, none, [])), (140, (.bipush 24, 2, 0, 0, some (xI 24), [])), (142, (.iload 4, 2, 4, 0, none, [])), (144, (.imul, 1, 0, 0, none, [])), (145, (.iload_n 2, 1, 2, 0, none, [])), (146, (.ifCond .ne 13, 3, 159, 0, none, []))]),
  (167, [(149, (.aload_n 0, 1, 0, 0, none, [])), (150, (.getfield 50, 3, 7, 16, some (xA none), [])), (153, (.iload 6, 2, 6, 0, none, [])), (155, (.iaload, 1, 0, 0, none, [])), (156, (.goto 10, 3, 166, 0, none, [])), (159, (.aload_n 0, 1, 0, 0, none, [])), (160, (.getfield 53, 3, 7, 17, some (xA none), [])), (163, (.iload 6, 2, 6, 0, none, [])), (165, (.iaload, 1, 0, 0, none, [])), (166, (.iadd, 1, 0, 0, none, []))]),
  (188, [(167, (.bipush 24, 2, 0, 0, some (xI 24), [])), (169, (.iload 5, 2, 5, 0, none, [])), (171, (.imul, 1, 0, 0, none, [])), (172, (.iload 6, 2, 6, 0, none, [])), (174, (.iadd, 1, 0, 0, none, [])), (175, (.invokevirtual 163, 3, 95, 115, none, [])), (178, (.iinc 6 1, 3, 6, 0, some (xI (1)), [])), (181, (.goto (-51), 3, 130, 0, none, [])), (184, (.aload_n 0, 1, 0, 0, none, [])), (185, (.getfield 27, 3, 7, 5, some (xA none), []))]),
  (194, [(188, (.iload_n 3, 1, 3, 0, none, [])), (189, (.iload 5, 2, 5, 0, none, [])), (191, (.iastore, 1, 0, 0, none, [])), (192, (.iconst 0, 1, 0, 0, some (xI 0), [])), (193, (.ireturn, 1, 0, 0, none, []))])]
def xc_140 : List (Nat × List (Nat × xEn)) := [(6, [(0, (.iconst 0, 1, 0, 0, some (xI 0), [])), (1, (.istore_n 2, 1, 2, 0, none, [])), (2, (.aload_n 0, 1, 0, 0, none, [true, true, true])), (3, (.getfield 27, 3, 7, 5, some (xA none), []))]),
  (12, [(6, (.iload_n 2, 1, 2, 0, none, [])), (7, (.iaload, 1, 0, 0, none, [])), (8, (.aload_n 0, 1, 0, 0, none, [])), (9, (.getfield 27, 3, 7, 5, some (xA none), []))]),
  (20, [(12, (.iload_n 1, 1, 1, 0, none, [])), (13, (.iaload, 1, 0, 0, none, [])), (14, (.if_icmp .eq 9, 3, 23, 0, none, [])), (17, (.iinc 2 1, 3, 2, 0, some (xI (1)), []))]),
  (25, [(20, (.goto (-18), 3, 2, 0, none, [])), (23, (.iload_n 2, 1, 2, 0, none, [])), (24, (.ireturn, 1, 0, 0, none, []))])]
def xc_141 : List (Nat × List (Nat × xEn)) := [(16, [(0, (.iload_n 1, 1, 1, 0, none, [])), (1, (.i2l, 1, 0, 0, none, [])), (2, (.lconst 0, 1, 0, 0, some (xJ 0), [])), (3, (.lconst 1, 1, 0, 0, some (xJ 1), [])), (4, (.invokestatic 88, 3, 88, 3, some (xI 0), [])), (7, (.ifCond .ne 6, 3, 13, 0, none, [])), (10, (.bipush (-2), 2, 0, 0, some (xI (-2)), [])), (12, (.ireturn, 1, 0, 0, none, [])), (13, (.iconst 0, 1, 0, 0, some (xI 0), [])), (14, (.istore_n 2, 1, 2, 0, none, [])), (15, (.iload_n 2, 1, 2, 0, none, [true, true, true, false, false, false]))]),
  (33, [(16, (.bipush 10, 2, 0, 0, some (xI 10), [])), (18, (.if_icmp .ge 181, 3, 199, 0, none, [])), (21, (.bipush 10, 2, 0, 0, some (xI 10), [])), (23, (.iload_n 1, 1, 1, 0, none, [])), (24, (.imul, 1, 0, 0, none, [])), (25, (.iload_n 2, 1, 2, 0, none, [])), (26, (.iadd, 1, 0, 0, none, [])), (27, (.istore_n 3, 1, 3, 0, none, [])), (28, (.aload_n 0, 1, 0, 0, none, [])), (29, (.getfield 65, 3, 7, 27, some (xA none), [])), (32, (.iload_n 3, 1, 3, 0, none, []))]),
  (50, [(33, (.aload_n 0, 1, 0, 0, none, [])), (34, (.getfield 27, 3, 7, 5, some (xA none), [])), (37, (.iload_n 2, 1, 2, 0, none, [])), (38, (.iaload, 1, 0, 0, none, [])), (39, (.iastore, 1, 0, 0, none, [])), (40, (.aload_n 0, 1, 0, 0, none, [])), (41, (.getfield 68, 3, 7, 28, some (xA none), [])), (44, (.iload_n 3, 1, 3, 0, none, [])), (45, (.aload_n 0, 1, 0, 0, none, [])), (46, (.iload_n 2, 1, 2, 0, none, [])), (47, (.invokevirtual 94, 3, 90, 114, some (xI 0), []))]),
  (72, [(50, (.ifCond .eq 11, 3, 61, 0, none, [])), (53, (.aload_n 0, 1, 0, 0, none, [])), (54, (.iload_n 2, 1, 2, 0, none, [])), (55, (.invokevirtual 270, 3, 140, 114, some (xI 0), [])), (58, (.goto 5, 3, 63, 0, none, [])), (61, (.bipush (-6), 2, 0, 0, some (xI (-6)), [])), (63, (.iastore, 1, 0, 0, none, [])), (64, (.aload_n 0, 1, 0, 0, none, [])), (65, (.iload_n 2, 1, 2, 0, none, [])), (66, (.invokevirtual 94, 3, 90, 114, some (xI 0), [])), (69, (.ifCond .eq 124, 3, 193, 0, none, []))]),
  (89, [(72, (.aload_n 0, 1, 0, 0, none, [])), (73, (.getfield 71, 3, 7, 29, some (xA none), [])), (76, (.iload_n 3, 1, 3, 0, none, [])), (77, (.aload_n 0, 1, 0, 0, none, [])), (78, (.getfield 7, 3, 7, 0, some (xA none), [])), (81, (.aload_n 0, 1, 0, 0, none, [])), (82, (.getfield 27, 3, 7, 5, some (xA none), [])), (85, (.iload_n 2, 1, 2, 0, none, [])), (86, (.iaload, 1, 0, 0, none, [])), (87, (.iaload, 1, 0, 0, none, [])), (88, (.iastore, 1, 0, 0, none, []))]),
  (106, [(89, (.aload_n 0, 1, 0, 0, none, [])), (90, (.getfield 74, 3, 7, 30, some (xA none), [])), (93, (.iload_n 3, 1, 3, 0, none, [])), (94, (.aload_n 0, 1, 0, 0, none, [])), (95, (.getfield 13, 3, 7, 1, some (xA none), [])), (98, (.aload_n 0, 1, 0, 0, none, [])), (99, (.getfield 27, 3, 7, 5, some (xA none), [])), (102, (.iload_n 2, 1, 2, 0, none, [])), (103, (.iaload, 1, 0, 0, none, [])), (104, (.iaload, 1, 0, 0, none, [])), (105, (.iastore, 1, 0, 0, none, []))]),
  (125, [(106, (.iconst 0, 1, 0, 0, some (xI 0), [])), (107, (.istore 4, 2, 4, 0, none, [])), (109, (.iload 4, 2, 4, 0, none, [true, true, true, true, true, false])), (111, (.bipush 24, 2, 0, 0, some (xI 24), [])), (113, (.if_icmp .ge 80, 3, 193, 0, none, [])), (116, (.bipush 24, 2, 0, 0, some (xI 24), [])), (118, (.aload_n 0, 1, 0, 0, none, [])), (119, (.getfield 27, 3, 7, 5, some (xA none), [])), (122, (.iload_n 2, 1, 2, 0, none, [])), (123, (.iaload, 1, 0, 0, none, [])), (124, (.imul, 1, 0, 0, none, []))]),
  (142, [(125, (.iload 4, 2, 4, 0, none, [])), (127, (.iadd, 1, 0, 0, none, [])), (128, (.istore 5, 2, 5, 0, none, [])), (130, (.aload_n 0, 1, 0, 0, none, [])), (131, (.getfield 77, 3, 7, 31, some (xA none), [])), (134, (.bipush 24, 2, 0, 0, some (xI 24), [])), (136, (.iload_n 3, 1, 3, 0, none, [])), (137, (.imul, 1, 0, 0, none, [])), (138, (.iload 4, 2, 4, 0, none, [])), (140, (.iadd, 1, 0, 0, none, [])), (141, (.aload_n 0, 1, 0, 0, none, []))]),
  (160, [(142, (.getfield 16, 3, 7, 2, some (xA none), [])), (145, (.iload 5, 2, 5, 0, none, [])), (147, (.iaload, 1, 0, 0, none, [])), (148, (.iastore, 1, 0, 0, none, [])), (149, (.aload_n 0, 1, 0, 0, none, [])), (150, (.getfield 80, 3, 7, 32, some (xA none), [])), (153, (.bipush 24, 2, 0, 0, some (xI 24), [])), (155, (.iload_n 3, 1, 3, 0, none, [])), (156, (.imul, 1, 0, 0, none, [])), (157, (.iload 4, 2, 4, 0, none, [])), (159, (.iadd, 1, 0, 0, none, []))]),
  (178, [(160, (.aload_n 0, 1, 0, 0, none, [])), (161, (.getfield 19, 3, 7, 3, some (xA none), [])), (164, (.iload 5, 2, 5, 0, none, [])), (166, (.laload, 1, 0, 0, none, [])), (167, (.lastore, 1, 0, 0, none, [])), (168, (.aload_n 0, 1, 0, 0, none, [])), (169, (.getfield 83, 3, 7, 33, some (xA none), [])), (172, (.bipush 24, 2, 0, 0, some (xI 24), [])), (174, (.iload_n 3, 1, 3, 0, none, [])), (175, (.imul, 1, 0, 0, none, [])), (176, (.iload 4, 2, 4, 0, none, []))]),
  (200, [(178, (.iadd, 1, 0, 0, none, [])), (179, (.aload_n 0, 1, 0, 0, none, [])), (180, (.getfield 23, 3, 7, 4, some (xA none), [])), (183, (.iload 5, 2, 5, 0, none, [])), (185, (.daload, 1, 0, 0, none, [])), (186, (.dastore, 1, 0, 0, none, [])), (187, (.iinc 4 1, 3, 4, 0, some (xI (1)), [])), (190, (.goto (-81), 3, 109, 0, none, [])), (193, (.iinc 2 1, 3, 2, 0, some (xI (1)), [])), (196, (.goto (-181), 3, 15, 0, none, [])), (199, (.aload_n 0, 1, 0, 0, none, []))]),
  (208, [(200, (.getfield 62, 3, 7, 26, some (xA none), [])), (203, (.iload_n 1, 1, 1, 0, none, [])), (204, (.iconst 1, 1, 0, 0, some (xI 1), [])), (205, (.bastore, 1, 0, 0, none, [])), (206, (.iconst 1, 1, 0, 0, some (xI 1), [])), (207, (.ireturn, 1, 0, 0, none, []))])]
def xc_142 : List (Nat × List (Nat × xEn)) := [(19, [(0, (.iload_n 1, 1, 1, 0, none, [])), (1, (.i2l, 1, 0, 0, none, [])), (2, (.lconst 0, 1, 0, 0, some (xJ 0), [])), (3, (.lconst 1, 1, 0, 0, some (xJ 1), [])), (4, (.invokestatic 88, 3, 88, 3, some (xI 0), [])), (7, (.ifCond .ne 6, 3, 13, 0, none, [])), (10, (.bipush (-2), 2, 0, 0, some (xI (-2)), [])), (12, (.ireturn, 1, 0, 0, none, [])), (13, (.aload_n 0, 1, 0, 0, none, [])), (14, (.getfield 62, 3, 7, 26, some (xA none), [])), (17, (.iload_n 1, 1, 1, 0, none, [])), (18, (.baload, 1, 0, 0, none, []))]),
  (39, [(19, (.ifCond .ne 6, 3, 25, 0, none, [])), (22, (.bipush (-3), 2, 0, 0, some (xI (-3)), [])), (24, (.ireturn, 1, 0, 0, none, [])), (25, (.iconst 0, 1, 0, 0, some (xI 0), [])), (26, (.istore_n 2, 1, 2, 0, none, [])), (27, (.iload_n 2, 1, 2, 0, none, [true, true, true, false, false, false])), (28, (.bipush 10, 2, 0, 0, some (xI 10), [])), (30, (.if_icmp .ge 16, 3, 46, 0, none, [])), (33, (.aload_n 0, 1, 0, 0, none, [])), (34, (.getfield 27, 3, 7, 5, some (xA none), [])), (37, (.iload_n 2, 1, 2, 0, none, [])), (38, (.iconst (-1), 1, 0, 0, some (xI (-1)), []))]),
  (59, [(39, (.iastore, 1, 0, 0, none, [])), (40, (.iinc 2 1, 3, 2, 0, some (xI (1)), [])), (43, (.goto (-16), 3, 27, 0, none, [])), (46, (.iconst 0, 1, 0, 0, some (xI 0), [])), (47, (.istore_n 2, 1, 2, 0, none, [])), (48, (.iload_n 2, 1, 2, 0, none, [true, true, true, false, false, false])), (49, (.bipush 10, 2, 0, 0, some (xI 10), [])), (51, (.if_icmp .ge 172, 3, 223, 0, none, [])), (54, (.bipush 10, 2, 0, 0, some (xI 10), [])), (56, (.iload_n 1, 1, 1, 0, none, [])), (57, (.imul, 1, 0, 0, none, [])), (58, (.iload_n 2, 1, 2, 0, none, []))]),
  (79, [(59, (.iadd, 1, 0, 0, none, [])), (60, (.istore_n 3, 1, 3, 0, none, [])), (61, (.aload_n 0, 1, 0, 0, none, [])), (62, (.getfield 68, 3, 7, 28, some (xA none), [])), (65, (.iload_n 3, 1, 3, 0, none, [])), (66, (.iaload, 1, 0, 0, none, [])), (67, (.ifCond .ge 18, 3, 85, 0, none, [])), (70, (.aload_n 0, 1, 0, 0, none, [])), (71, (.getfield 27, 3, 7, 5, some (xA none), [])), (74, (.iload_n 2, 1, 2, 0, none, [])), (75, (.aload_n 0, 1, 0, 0, none, [])), (76, (.getfield 65, 3, 7, 27, some (xA none), []))]),
  (99, [(79, (.iload_n 3, 1, 3, 0, none, [])), (80, (.iaload, 1, 0, 0, none, [])), (81, (.iastore, 1, 0, 0, none, [])), (82, (.goto 135, 3, 217, 0, none, [])), (85, (.aload_n 0, 1, 0, 0, none, [])), (86, (.getfield 68, 3, 7, 28, some (xA none), [])), (89, (.iload_n 3, 1, 3, 0, none, [])), (90, (.iaload, 1, 0, 0, none, [])), (91, (.iload_n 2, 1, 2, 0, none, [])), (92, (.if_icmp .ge 23, 3, 115, 0, none, [])), (95, (.aload_n 0, 1, 0, 0, none, [])), (96, (.getfield 27, 3, 7, 5, some (xA none), []))]),
  (118, [(99, (.iload_n 2, 1, 2, 0, none, [])), (100, (.aload_n 0, 1, 0, 0, none, [])), (101, (.getfield 27, 3, 7, 5, some (xA none), [])), (104, (.aload_n 0, 1, 0, 0, none, [])), (105, (.getfield 68, 3, 7, 28, some (xA none), [])), (108, (.iload_n 3, 1, 3, 0, none, [])), (109, (.iaload, 1, 0, 0, none, [])), (110, (.iaload, 1, 0, 0, none, [])), (111, (.iastore, 1, 0, 0, none, [])), (112, (.goto 105, 3, 217, 0, none, [])), (115, (.aload_n 0, 1, 0, 0, none, [])), (116, (.bipush (-6), 2, 0, 0, some (xI (-6)), []))]),
  (138, [(118, (.invokevirtual 148, 3, 92, 114, some (xI 0), [])), (121, (.istore 4, 2, 4, 0, none, [])), (123, (.aload_n 0, 1, 0, 0, none, [])), (124, (.iload 4, 2, 4, 0, none, [])), (126, (.aload_n 0, 1, 0, 0, none, [])), (127, (.getfield 71, 3, 7, 29, some (xA none), [])), (130, (.iload_n 3, 1, 3, 0, none, [])), (131, (.iaload, 1, 0, 0, none, [])), (132, (.aload_n 0, 1, 0, 0, none, [])), (133, (.getfield 74, 3, 7, 30, some (xA none), [])), (136, (.iload_n 3, 1, 3, 0, none, [])), (137, (.iaload, 1, 0, 0, none, []))]),
  (160, [(138, (.invokevirtual 152, 3, 93, 116, none, [])), (141, (.iconst 0, 1, 0, 0, some (xI 0), [])), (142, (.istore 5, 2, 5, 0, none, [])), (144, (.iload 5, 2, 5, 0, none, [true, true, true, true, true, true])), (146, (.aload_n 0, 1, 0, 0, none, [])), (147, (.getfield 74, 3, 7, 30, some (xA none), [])), (150, (.iload_n 3, 1, 3, 0, none, [])), (151, (.iaload, 1, 0, 0, none, [])), (152, (.if_icmp .ge 57, 3, 209, 0, none, [])), (155, (.aload_n 0, 1, 0, 0, none, [])), (156, (.bipush 24, 2, 0, 0, some (xI 24), [])), (158, (.iload 4, 2, 4, 0, none, []))]),
  (177, [(160, (.imul, 1, 0, 0, none, [])), (161, (.iload 5, 2, 5, 0, none, [])), (163, (.iadd, 1, 0, 0, none, [])), (164, (.aload_n 0, 1, 0, 0, none, [])), (165, (.getfield 77, 3, 7, 31, some (xA none), [])), (168, (.bipush 24, 2, 0, 0, some (xI 24), [])), (170, (.iload_n 3, 1, 3, 0, none, [])), (171, (.imul, 1, 0, 0, none, [])), (172, (.iload 5, 2, 5, 0, none, [])), (174, (.iadd, 1, 0, 0, none, [])), (175, (.iaload, 1, 0, 0, none, [])), (176, (.aload_n 0, 1, 0, 0, none, []))]),
  (196, [(177, (.getfield 80, 3, 7, 32, some (xA none), [])), (180, (.bipush 24, 2, 0, 0, some (xI 24), [])), (182, (.iload_n 3, 1, 3, 0, none, [])), (183, (.imul, 1, 0, 0, none, [])), (184, (.iload 5, 2, 5, 0, none, [])), (186, (.iadd, 1, 0, 0, none, [])), (187, (.laload, 1, 0, 0, none, [])), (188, (.aload_n 0, 1, 0, 0, none, [])), (189, (.getfield 83, 3, 7, 33, some (xA none), [])), (192, (.bipush 24, 2, 0, 0, some (xI 24), [])), (194, (.iload_n 3, 1, 3, 0, none, [])), (195, (.imul, 1, 0, 0, none, []))]),
  (220, [(196, (.iload 5, 2, 5, 0, none, [])), (198, (.iadd, 1, 0, 0, none, [])), (199, (.daload, 1, 0, 0, none, [])), (200, (.invokevirtual 98, 3, 94, 117, none, [])), (203, (.iinc 5 1, 3, 5, 0, some (xI (1)), [])), (206, (.goto (-62), 3, 144, 0, none, [])), (209, (.aload_n 0, 1, 0, 0, none, [])), (210, (.getfield 27, 3, 7, 5, some (xA none), [])), (213, (.iload_n 2, 1, 2, 0, none, [])), (214, (.iload 4, 2, 4, 0, none, [])), (216, (.iastore, 1, 0, 0, none, [])), (217, (.iinc 2 1, 3, 2, 0, some (xI (1)), []))]),
  (225, [(220, (.goto (-172), 3, 48, 0, none, [])), (223, (.iconst 1, 1, 0, 0, some (xI 1), [])), (224, (.ireturn, 1, 0, 0, none, []))])]
def xc_143 : List (Nat × List (Nat × xEn)) := [(9, [(0, (.iload_n 1, 1, 1, 0, none, [])), (1, (.i2l, 1, 0, 0, none, [])), (2, (.lconst 0, 1, 0, 0, some (xJ 0), [])), (3, (.ldc2_w 273, 3, 0, 0, some (xJ (18)), [])), (6, (.invokestatic 88, 3, 88, 3, some (xI 0), []))]),
  (18, [(9, (.ifCond .eq 29, 3, 38, 0, none, [])), (12, (.iload_n 2, 1, 2, 0, none, [])), (13, (.i2l, 1, 0, 0, none, [])), (14, (.lconst 0, 1, 0, 0, some (xJ 0), [])), (15, (.ldc2_w 275, 3, 0, 0, some (xJ (5)), []))]),
  (30, [(18, (.invokestatic 88, 3, 88, 3, some (xI 0), [])), (21, (.ifCond .eq 17, 3, 38, 0, none, [])), (24, (.aload_n 0, 1, 0, 0, none, [])), (25, (.getfield 44, 3, 7, 14, some (xA none), [])), (28, (.bipush 6, 2, 0, 0, some (xI 6), []))]),
  (35, [(30, (.iload_n 1, 1, 1, 0, none, [])), (31, (.imul, 1, 0, 0, none, [])), (32, (.iload_n 2, 1, 2, 0, none, [])), (33, (.iadd, 1, 0, 0, none, [])), (34, (.iaload, 1, 0, 0, none, []))]),
  (41, [(35, (.goto 5, 3, 40, 0, none, [])), (38, (.bipush (-2), 2, 0, 0, some (xI (-2)), [])), (40, (.ireturn, 1, 0, 0, none, []))])]
def xc_144 : List (Nat × List (Nat × xEn)) := [(5, [(0, (.iconst 0, 1, 0, 0, some (xI 0), [])), (1, (.istore_n 1, 1, 1, 0, none, [])), (2, (.iconst 0, 1, 0, 0, some (xI 0), [])), (3, (.istore_n 2, 1, 2, 0, none, [])), (4, (.iload_n 2, 1, 2, 0, none, [true, true, true]))]),
  (15, [(5, (.bipush 114, 2, 0, 0, some (xI 114), [])), (7, (.if_icmp .ge 26, 3, 33, 0, none, [])), (10, (.iload_n 1, 1, 1, 0, none, [])), (11, (.aload_n 0, 1, 0, 0, none, [])), (12, (.getfield 44, 3, 7, 14, some (xA none), []))]),
  (24, [(15, (.iload_n 2, 1, 2, 0, none, [])), (16, (.iaload, 1, 0, 0, none, [])), (17, (.ifCond .le 7, 3, 24, 0, none, [])), (20, (.iconst 1, 1, 0, 0, some (xI 1), [])), (21, (.goto 4, 3, 25, 0, none, []))]),
  (33, [(24, (.iconst 0, 1, 0, 0, some (xI 0), [])), (25, (.iadd, 1, 0, 0, none, [])), (26, (.istore_n 1, 1, 1, 0, none, [])), (27, (.iinc 2 1, 3, 2, 0, some (xI (1)), [])), (30, (.goto (-26), 3, 4, 0, none, []))]),
  (35, [(33, (.iload_n 1, 1, 1, 0, none, [])), (34, (.ireturn, 1, 0, 0, none, []))])]
def xc_145 : List (Nat × List (Nat × xEn)) := [(9, [(0, (.aload_n 0, 1, 0, 0, none, [])), (1, (.iload_n 1, 1, 1, 0, none, [])), (2, (.invokevirtual 94, 3, 90, 114, some (xI 0), [])), (5, (.ifCond .eq 15, 3, 20, 0, none, [])), (8, (.aload_n 0, 1, 0, 0, none, []))]),
  (18, [(9, (.getfield 7, 3, 7, 0, some (xA none), [])), (12, (.aload_n 0, 1, 0, 0, none, [])), (13, (.getfield 27, 3, 7, 5, some (xA none), [])), (16, (.iload_n 1, 1, 1, 0, none, [])), (17, (.iaload, 1, 0, 0, none, []))]),
  (25, [(18, (.iaload, 1, 0, 0, none, [])), (19, (.ireturn, 1, 0, 0, none, [])), (20, (.aload_n 0, 1, 0, 0, none, [])), (21, (.getfield 27, 3, 7, 5, some (xA none), [])), (24, (.iload_n 1, 1, 1, 0, none, []))]),
  (35, [(25, (.iaload, 1, 0, 0, none, [])), (26, (.iconst (-1), 1, 0, 0, some (xI (-1)), [])), (27, (.if_icmp .ne 8, 3, 35, 0, none, [])), (30, (.bipush 15, 2, 0, 0, some (xI 15), [])), (32, (.goto 22, 3, 54, 0, none, []))]),
  (44, [(35, (.aload_n 0, 1, 0, 0, none, [])), (36, (.getfield 27, 3, 7, 5, some (xA none), [])), (39, (.iload_n 1, 1, 1, 0, none, [])), (40, (.iaload, 1, 0, 0, none, [])), (41, (.sipush 1000, 3, 0, 0, some (xI 1000), []))]),
  (55, [(44, (.if_icmp .lt 8, 3, 52, 0, none, [])), (47, (.bipush 13, 2, 0, 0, some (xI 13), [])), (49, (.goto 5, 3, 54, 0, none, [])), (52, (.bipush 14, 2, 0, 0, some (xI 14), [])), (54, (.ireturn, 1, 0, 0, none, []))])]
def xc_146 : List (Nat × List (Nat × xEn)) := [(49, [(0, (.iload_n 1, 1, 1, 0, none, [])), (1, (.tableswitch 103 0 5 #[39, 44, 49, 71, 93, 98], 39, 104, 0, none, [])), (40, (.aload_n 0, 1, 0, 0, none, [])), (41, (.getfield 47, 3, 7, 15, some (xI 0), [])), (44, (.ireturn, 1, 0, 0, none, [])), (45, (.aload_n 0, 1, 0, 0, none, [])), (46, (.getfield 259, 3, 7, 18, some (xI 0), []))]),
  (63, [(49, (.ireturn, 1, 0, 0, none, [])), (50, (.aload_n 0, 1, 0, 0, none, [])), (51, (.getfield 30, 3, 7, 6, some (xI 0), [])), (54, (.ifCond .ge 8, 3, 62, 0, none, [])), (57, (.bipush (-6), 2, 0, 0, some (xI (-6)), [])), (59, (.goto 12, 3, 71, 0, none, [])), (62, (.aload_n 0, 1, 0, 0, none, []))]),
  (76, [(63, (.getfield 13, 3, 7, 1, some (xA none), [])), (66, (.aload_n 0, 1, 0, 0, none, [])), (67, (.getfield 30, 3, 7, 6, some (xI 0), [])), (70, (.iaload, 1, 0, 0, none, [])), (71, (.ireturn, 1, 0, 0, none, [])), (72, (.aload_n 0, 1, 0, 0, none, [])), (73, (.getfield 30, 3, 7, 6, some (xI 0), []))]),
  (92, [(76, (.ifCond .ge 8, 3, 84, 0, none, [])), (79, (.bipush (-6), 2, 0, 0, some (xI (-6)), [])), (81, (.goto 12, 3, 93, 0, none, [])), (84, (.aload_n 0, 1, 0, 0, none, [])), (85, (.getfield 7, 3, 7, 0, some (xA none), [])), (88, (.aload_n 0, 1, 0, 0, none, [])), (89, (.getfield 30, 3, 7, 6, some (xI 0), []))]),
  (103, [(92, (.iaload, 1, 0, 0, none, [])), (93, (.ireturn, 1, 0, 0, none, [])), (94, (.aload_n 0, 1, 0, 0, none, [])), (95, (.getfield 145, 3, 7, 13, some (xI 0), [])), (98, (.ireturn, 1, 0, 0, none, [])), (99, (.aload_n 0, 1, 0, 0, none, [])), (100, (.invokevirtual 277, 3, 144, 113, some (xI 0), []))]),
  (118, [(103, (.ireturn, 1, 0, 0, none, [])), (104, (.iload_n 1, 1, 1, 0, none, [])), (105, (.i2l, 1, 0, 0, none, [])), (106, (.ldc2_w 281, 3, 0, 0, some (xJ (10)), [])), (109, (.ldc2_w 283, 3, 0, 0, some (xJ (19)), [])), (112, (.invokestatic 88, 3, 88, 3, some (xI 0), [])), (115, (.ifCond .eq 14, 3, 129, 0, none, []))]),
  (131, [(118, (.aload_n 0, 1, 0, 0, none, [])), (119, (.iload_n 1, 1, 1, 0, none, [])), (120, (.bipush 10, 2, 0, 0, some (xI 10), [])), (122, (.isub, 1, 0, 0, none, [])), (123, (.invokevirtual 285, 3, 145, 114, some (xI 0), [])), (126, (.goto 5, 3, 131, 0, none, [])), (129, (.bipush (-2), 2, 0, 0, some (xI (-2)), []))]),
  (132, [(131, (.ireturn, 1, 0, 0, none, []))])]
def xc_147 : List (Nat × List (Nat × xEn)) := [(6, [(0, (.lload_n 0, 1, 0, 0, none, [])), (1, (.lload_n 2, 1, 2, 0, none, [])), (2, (.lcmp, 1, 0, 0, none, [])), (3, (.ifCond .ge 7, 3, 10, 0, none, []))]),
  (12, [(6, (.iconst (-1), 1, 0, 0, some (xI (-1)), [])), (7, (.goto 14, 3, 21, 0, none, [])), (10, (.lload_n 0, 1, 0, 0, none, [])), (11, (.lload_n 2, 1, 2, 0, none, []))]),
  (20, [(12, (.lcmp, 1, 0, 0, none, [])), (13, (.ifCond .ne 7, 3, 20, 0, none, [])), (16, (.iconst 0, 1, 0, 0, some (xI 0), [])), (17, (.goto 4, 3, 21, 0, none, []))]),
  (22, [(20, (.iconst 1, 1, 0, 0, some (xI 1), [])), (21, (.ireturn, 1, 0, 0, none, []))])]
def xc_148_0 : List (Nat × xEn) := [(0, (.new 7, 3, 6, 13, none, [])), (3, (.dup, 1, 0, 0, none, [])), (4, (.invokespecial 9, 3, 39, 1, none, [])), (7, (.astore_n 1, 1, 1, 0, none, [])), (8, (.new 10, 3, 7, 34, none, [])), (11, (.dup, 1, 0, 0, none, [])), (12, (.invokespecial 12, 3, 87, 1, none, [])), (15, (.astore_n 2, 1, 2, 0, none, [])), (16, (.iconst 0, 1, 0, 0, some (xI 0), [])), (17, (.istore_n 3, 1, 3, 0, none, [])), (18, (.iload_n 3, 1, 3, 0, none, [true, true, true, true])), (19, (.aload_n 0, 1, 0, 0, none, [])), (20, (.arraylength, 1, 0, 0, none, [])), (21, (.bipush 6, 2, 0, 0, some (xI 6), [])), (23, (.isub, 1, 0, 0, none, [])), (24, (.if_icmp .gt 1124, 3, 1148, 0, none, [])), (27, (.aload_n 0, 1, 0, 0, none, [])), (28, (.iload_n 3, 1, 3, 0, none, [])), (29, (.iaload, 1, 0, 0, none, [])), (30, (.bipush 31, 2, 0, 0, some (xI 31), [])), (32, (.iand, 1, 0, 0, none, [])), (33, (.tableswitch 1109 0 25 #[119, 162, 205, 238, 261, 304, 318, 401, 434, 467, 530, 554, 577, 620, 653, 686, 709, 772, 805, 888, 931, 964, 1007, 1030, 1053, 1086], 119, 1142, 0, none, [])), (152, (.aload_n 1, 1, 1, 0, none, [])), (153, (.aload_n 0, 1, 0, 0, none, [])), (154, (.iload_n 3, 1, 3, 0, none, [])), (155, (.iconst 1, 1, 0, 0, some (xI 1), [])), (156, (.iadd, 1, 0, 0, none, [])), (157, (.iaload, 1, 0, 0, none, [])), (158, (.aload_n 0, 1, 0, 0, none, []))]
def xc_148_1 : List (Nat × xEn) := [(159, (.iload_n 3, 1, 3, 0, none, [])), (160, (.iconst 2, 1, 0, 0, some (xI 2), [])), (161, (.iadd, 1, 0, 0, none, [])), (162, (.iaload, 1, 0, 0, none, [])), (163, (.aload_n 0, 1, 0, 0, none, [])), (164, (.iload_n 3, 1, 3, 0, none, [])), (165, (.iconst 3, 1, 0, 0, some (xI 3), [])), (166, (.iadd, 1, 0, 0, none, [])), (167, (.iaload, 1, 0, 0, none, [])), (168, (.invokevirtual 13, 3, 40, 100, some (xI 0), [])), (171, (.aload_n 2, 1, 2, 0, none, [])), (172, (.aload_n 0, 1, 0, 0, none, [])), (173, (.iload_n 3, 1, 3, 0, none, [])), (174, (.iconst 1, 1, 0, 0, some (xI 1), [])), (175, (.iadd, 1, 0, 0, none, [])), (176, (.iaload, 1, 0, 0, none, [])), (177, (.aload_n 0, 1, 0, 0, none, [])), (178, (.iload_n 3, 1, 3, 0, none, [])), (179, (.iconst 2, 1, 0, 0, some (xI 2), [])), (180, (.iadd, 1, 0, 0, none, [])), (181, (.iaload, 1, 0, 0, none, [])), (182, (.aload_n 0, 1, 0, 0, none, [])), (183, (.iload_n 3, 1, 3, 0, none, [])), (184, (.iconst 3, 1, 0, 0, some (xI 3), [])), (185, (.iadd, 1, 0, 0, none, [])), (186, (.iaload, 1, 0, 0, none, [])), (187, (.invokevirtual 17, 3, 102, 116, some (xI 0), [])), (190, (.if_icmp .eq 952, 3, 1142, 0, none, [])), (193, (.iconst 0, 1, 0, 0, some (xI 0), []))]
def xc_148_2 : List (Nat × xEn) := [(194, (.ireturn, 1, 0, 1, none, [])), (195, (.aload_n 1, 1, 1, 0, none, [])), (196, (.aload_n 0, 1, 0, 0, none, [])), (197, (.iload_n 3, 1, 3, 0, none, [])), (198, (.iconst 1, 1, 0, 0, some (xI 1), [])), (199, (.iadd, 1, 0, 0, none, [])), (200, (.iaload, 1, 0, 0, none, [])), (201, (.aload_n 0, 1, 0, 0, none, [])), (202, (.iload_n 3, 1, 3, 0, none, [])), (203, (.iconst 2, 1, 0, 0, some (xI 2), [])), (204, (.iadd, 1, 0, 0, none, [])), (205, (.iaload, 1, 0, 0, none, [])), (206, (.aload_n 0, 1, 0, 0, none, [])), (207, (.iload_n 3, 1, 3, 0, none, [])), (208, (.iconst 3, 1, 0, 0, some (xI 3), [])), (209, (.iadd, 1, 0, 0, none, [])), (210, (.iaload, 1, 0, 0, none, [])), (211, (.invokevirtual 18, 3, 41, 100, some (xI 0), [])), (214, (.aload_n 2, 1, 2, 0, none, [])), (215, (.aload_n 0, 1, 0, 0, none, [])), (216, (.iload_n 3, 1, 3, 0, none, [])), (217, (.iconst 1, 1, 0, 0, some (xI 1), [])), (218, (.iadd, 1, 0, 0, none, [])), (219, (.iaload, 1, 0, 0, none, [])), (220, (.aload_n 0, 1, 0, 0, none, [])), (221, (.iload_n 3, 1, 3, 0, none, [])), (222, (.iconst 2, 1, 0, 0, some (xI 2), [])), (223, (.iadd, 1, 0, 0, none, [])), (224, (.iaload, 1, 0, 0, none, []))]
def xc_148_3 : List (Nat × xEn) := [(225, (.aload_n 0, 1, 0, 0, none, [])), (226, (.iload_n 3, 1, 3, 0, none, [])), (227, (.iconst 3, 1, 0, 0, some (xI 3), [])), (228, (.iadd, 1, 0, 0, none, [])), (229, (.iaload, 1, 0, 0, none, [])), (230, (.invokevirtual 21, 3, 104, 116, some (xI 0), [])), (233, (.if_icmp .eq 909, 3, 1142, 0, none, [])), (236, (.iconst 0, 1, 0, 0, some (xI 0), [])), (237, (.ireturn, 1, 0, 1, none, [])), (238, (.aload_n 1, 1, 1, 0, none, [])), (239, (.aload_n 0, 1, 0, 0, none, [])), (240, (.iload_n 3, 1, 3, 0, none, [])), (241, (.iconst 1, 1, 0, 0, some (xI 1), [])), (242, (.iadd, 1, 0, 0, none, [])), (243, (.iaload, 1, 0, 0, none, [])), (244, (.aload_n 0, 1, 0, 0, none, [])), (245, (.iload_n 3, 1, 3, 0, none, [])), (246, (.iconst 2, 1, 0, 0, some (xI 2), [])), (247, (.iadd, 1, 0, 0, none, [])), (248, (.iaload, 1, 0, 0, none, [])), (249, (.invokevirtual 22, 3, 42, 99, some (xI 0), [])), (252, (.aload_n 2, 1, 2, 0, none, [])), (253, (.aload_n 0, 1, 0, 0, none, [])), (254, (.iload_n 3, 1, 3, 0, none, [])), (255, (.iconst 1, 1, 0, 0, some (xI 1), [])), (256, (.iadd, 1, 0, 0, none, [])), (257, (.iaload, 1, 0, 0, none, [])), (258, (.aload_n 0, 1, 0, 0, none, [])), (259, (.iload_n 3, 1, 3, 0, none, []))]
def xc_148_4 : List (Nat × xEn) := [(260, (.iconst 2, 1, 0, 0, some (xI 2), [])), (261, (.iadd, 1, 0, 0, none, [])), (262, (.iaload, 1, 0, 0, none, [])), (263, (.invokevirtual 26, 3, 105, 115, some (xI 0), [])), (266, (.if_icmp .eq 876, 3, 1142, 0, none, [])), (269, (.iconst 0, 1, 0, 0, some (xI 0), [])), (270, (.ireturn, 1, 0, 1, none, [])), (271, (.aload_n 1, 1, 1, 0, none, [])), (272, (.aload_n 0, 1, 0, 0, none, [])), (273, (.iload_n 3, 1, 3, 0, none, [])), (274, (.iconst 1, 1, 0, 0, some (xI 1), [])), (275, (.iadd, 1, 0, 0, none, [])), (276, (.iaload, 1, 0, 0, none, [])), (277, (.invokevirtual 27, 3, 43, 98, some (xI 0), [])), (280, (.aload_n 2, 1, 2, 0, none, [])), (281, (.aload_n 0, 1, 0, 0, none, [])), (282, (.iload_n 3, 1, 3, 0, none, [])), (283, (.iconst 1, 1, 0, 0, some (xI 1), [])), (284, (.iadd, 1, 0, 0, none, [])), (285, (.iaload, 1, 0, 0, none, [])), (286, (.invokevirtual 31, 3, 107, 114, some (xI 0), [])), (289, (.if_icmp .eq 853, 3, 1142, 0, none, [])), (292, (.iconst 0, 1, 0, 0, some (xI 0), [])), (293, (.ireturn, 1, 0, 1, none, [])), (294, (.aload_n 1, 1, 1, 0, none, [])), (295, (.aload_n 0, 1, 0, 0, none, [])), (296, (.iload_n 3, 1, 3, 0, none, [])), (297, (.iconst 1, 1, 0, 0, some (xI 1), [])), (298, (.iadd, 1, 0, 0, none, []))]
def xc_148_5 : List (Nat × xEn) := [(299, (.iaload, 1, 0, 0, none, [])), (300, (.aload_n 0, 1, 0, 0, none, [])), (301, (.iload_n 3, 1, 3, 0, none, [])), (302, (.iconst 2, 1, 0, 0, some (xI 2), [])), (303, (.iadd, 1, 0, 0, none, [])), (304, (.iaload, 1, 0, 0, none, [])), (305, (.aload_n 0, 1, 0, 0, none, [])), (306, (.iload_n 3, 1, 3, 0, none, [])), (307, (.iconst 3, 1, 0, 0, some (xI 3), [])), (308, (.iadd, 1, 0, 0, none, [])), (309, (.iaload, 1, 0, 0, none, [])), (310, (.invokevirtual 32, 3, 44, 100, some (xI 0), [])), (313, (.aload_n 2, 1, 2, 0, none, [])), (314, (.aload_n 0, 1, 0, 0, none, [])), (315, (.iload_n 3, 1, 3, 0, none, [])), (316, (.iconst 1, 1, 0, 0, some (xI 1), [])), (317, (.iadd, 1, 0, 0, none, [])), (318, (.iaload, 1, 0, 0, none, [])), (319, (.aload_n 0, 1, 0, 0, none, [])), (320, (.iload_n 3, 1, 3, 0, none, [])), (321, (.iconst 2, 1, 0, 0, some (xI 2), [])), (322, (.iadd, 1, 0, 0, none, [])), (323, (.iaload, 1, 0, 0, none, [])), (324, (.aload_n 0, 1, 0, 0, none, [])), (325, (.iload_n 3, 1, 3, 0, none, [])), (326, (.iconst 3, 1, 0, 0, some (xI 3), [])), (327, (.iadd, 1, 0, 0, none, [])), (328, (.iaload, 1, 0, 0, none, [])), (329, (.invokevirtual 35, 3, 109, 116, some (xI 0), []))]
def xc_148_6 : List (Nat × xEn) := [(332, (.if_icmp .eq 810, 3, 1142, 0, none, [])), (335, (.iconst 0, 1, 0, 0, some (xI 0), [])), (336, (.ireturn, 1, 0, 1, none, [])), (337, (.aload_n 1, 1, 1, 0, none, [])), (338, (.invokevirtual 36, 3, 45, 97, some (xJ 0), [])), (341, (.aload_n 2, 1, 2, 0, none, [])), (342, (.invokevirtual 40, 3, 110, 113, some (xJ 0), [])), (345, (.lcmp, 1, 0, 0, none, [])), (346, (.ifCond .eq 796, 3, 1142, 0, none, [])), (349, (.iconst 0, 1, 0, 0, some (xI 0), [])), (350, (.ireturn, 1, 0, 1, none, [])), (351, (.aload_n 1, 1, 1, 0, none, [])), (352, (.aload_n 0, 1, 0, 0, none, [])), (353, (.iload_n 3, 1, 3, 0, none, [])), (354, (.iconst 1, 1, 0, 0, some (xI 1), [])), (355, (.iadd, 1, 0, 0, none, [])), (356, (.iaload, 1, 0, 0, none, [])), (357, (.aload_n 0, 1, 0, 0, none, [])), (358, (.iload_n 3, 1, 3, 0, none, [])), (359, (.iconst 2, 1, 0, 0, some (xI 2), [])), (360, (.iadd, 1, 0, 0, none, [])), (361, (.iaload, 1, 0, 0, none, [])), (362, (.aload_n 0, 1, 0, 0, none, [])), (363, (.iload_n 3, 1, 3, 0, none, [])), (364, (.iconst 3, 1, 0, 0, some (xI 3), [])), (365, (.iadd, 1, 0, 0, none, [])), (366, (.iaload, 1, 0, 0, none, [])), (367, (.aload_n 0, 1, 0, 0, none, [])), (368, (.iload_n 3, 1, 3, 0, none, []))]
def xc_148_7 : List (Nat × xEn) := [(369, (.iconst 4, 1, 0, 0, some (xI 4), [])), (370, (.iadd, 1, 0, 0, none, [])), (371, (.iaload, 1, 0, 0, none, [])), (372, (.i2l, 1, 0, 0, none, [])), (373, (.bipush 32, 2, 0, 0, some (xI 32), [])), (375, (.lshl, 1, 0, 0, none, [])), (376, (.aload_n 0, 1, 0, 0, none, [])), (377, (.iload_n 3, 1, 3, 0, none, [])), (378, (.iconst 5, 1, 0, 0, some (xI 5), [])), (379, (.iadd, 1, 0, 0, none, [])), (380, (.iaload, 1, 0, 0, none, [])), (381, (.i2l, 1, 0, 0, none, [])), (382, (.ldc2_w 41, 3, 0, 0, some (xJ (4294967295)), [])), (385, (.land, 1, 0, 0, none, [])), (386, (.lor, 1, 0, 0, none, [])), (387, (.invokevirtual 43, 3, 46, 101, some (xI 0), [])), (390, (.aload_n 2, 1, 2, 0, none, [])), (391, (.aload_n 0, 1, 0, 0, none, [])), (392, (.iload_n 3, 1, 3, 0, none, [])), (393, (.iconst 1, 1, 0, 0, some (xI 1), [])), (394, (.iadd, 1, 0, 0, none, [])), (395, (.iaload, 1, 0, 0, none, [])), (396, (.aload_n 0, 1, 0, 0, none, [])), (397, (.iload_n 3, 1, 3, 0, none, [])), (398, (.iconst 2, 1, 0, 0, some (xI 2), [])), (399, (.iadd, 1, 0, 0, none, [])), (400, (.iaload, 1, 0, 0, none, [])), (401, (.aload_n 0, 1, 0, 0, none, [])), (402, (.iload_n 3, 1, 3, 0, none, []))]
def xc_148_8 : List (Nat × xEn) := [(403, (.iconst 3, 1, 0, 0, some (xI 3), [])), (404, (.iadd, 1, 0, 0, none, [])), (405, (.iaload, 1, 0, 0, none, [])), (406, (.aload_n 0, 1, 0, 0, none, [])), (407, (.iload_n 3, 1, 3, 0, none, [])), (408, (.iconst 4, 1, 0, 0, some (xI 4), [])), (409, (.iadd, 1, 0, 0, none, [])), (410, (.iaload, 1, 0, 0, none, [])), (411, (.i2l, 1, 0, 0, none, [])), (412, (.bipush 32, 2, 0, 0, some (xI 32), [])), (414, (.lshl, 1, 0, 0, none, [])), (415, (.aload_n 0, 1, 0, 0, none, [])), (416, (.iload_n 3, 1, 3, 0, none, [])), (417, (.iconst 5, 1, 0, 0, some (xI 5), [])), (418, (.iadd, 1, 0, 0, none, [])), (419, (.iaload, 1, 0, 0, none, [])), (420, (.i2l, 1, 0, 0, none, [])), (421, (.ldc2_w 41, 3, 0, 0, some (xJ (4294967295)), [])), (424, (.land, 1, 0, 0, none, [])), (425, (.lor, 1, 0, 0, none, [])), (426, (.invokevirtual 47, 3, 112, 117, some (xI 0), [])), (429, (.if_icmp .eq 713, 3, 1142, 0, none, [])), (432, (.iconst 0, 1, 0, 0, some (xI 0), [])), (433, (.ireturn, 1, 0, 1, none, [])), (434, (.aload_n 1, 1, 1, 0, none, [])), (435, (.aload_n 0, 1, 0, 0, none, [])), (436, (.iload_n 3, 1, 3, 0, none, [])), (437, (.iconst 1, 1, 0, 0, some (xI 1), [])), (438, (.iadd, 1, 0, 0, none, []))]
def xc_148_9 : List (Nat × xEn) := [(439, (.iaload, 1, 0, 0, none, [])), (440, (.aload_n 0, 1, 0, 0, none, [])), (441, (.iload_n 3, 1, 3, 0, none, [])), (442, (.iconst 2, 1, 0, 0, some (xI 2), [])), (443, (.iadd, 1, 0, 0, none, [])), (444, (.iaload, 1, 0, 0, none, [])), (445, (.invokevirtual 48, 3, 47, 99, some (xI 0), [])), (448, (.aload_n 2, 1, 2, 0, none, [])), (449, (.aload_n 0, 1, 0, 0, none, [])), (450, (.iload_n 3, 1, 3, 0, none, [])), (451, (.iconst 1, 1, 0, 0, some (xI 1), [])), (452, (.iadd, 1, 0, 0, none, [])), (453, (.iaload, 1, 0, 0, none, [])), (454, (.aload_n 0, 1, 0, 0, none, [])), (455, (.iload_n 3, 1, 3, 0, none, [])), (456, (.iconst 2, 1, 0, 0, some (xI 2), [])), (457, (.iadd, 1, 0, 0, none, [])), (458, (.iaload, 1, 0, 0, none, [])), (459, (.invokevirtual 51, 3, 118, 115, some (xI 0), [])), (462, (.if_icmp .eq 680, 3, 1142, 0, none, [])), (465, (.iconst 0, 1, 0, 0, some (xI 0), [])), (466, (.ireturn, 1, 0, 1, none, [])), (467, (.aload_n 1, 1, 1, 0, none, [])), (468, (.aload_n 0, 1, 0, 0, none, [])), (469, (.iload_n 3, 1, 3, 0, none, [])), (470, (.iconst 1, 1, 0, 0, some (xI 1), [])), (471, (.iadd, 1, 0, 0, none, [])), (472, (.iaload, 1, 0, 0, none, [])), (473, (.aload_n 0, 1, 0, 0, none, []))]
def xc_148_10 : List (Nat × xEn) := [(474, (.iload_n 3, 1, 3, 0, none, [])), (475, (.iconst 2, 1, 0, 0, some (xI 2), [])), (476, (.iadd, 1, 0, 0, none, [])), (477, (.iaload, 1, 0, 0, none, [])), (478, (.invokevirtual 52, 3, 48, 99, some (xI 0), [])), (481, (.aload_n 2, 1, 2, 0, none, [])), (482, (.aload_n 0, 1, 0, 0, none, [])), (483, (.iload_n 3, 1, 3, 0, none, [])), (484, (.iconst 1, 1, 0, 0, some (xI 1), [])), (485, (.iadd, 1, 0, 0, none, [])), (486, (.iaload, 1, 0, 0, none, [])), (487, (.aload_n 0, 1, 0, 0, none, [])), (488, (.iload_n 3, 1, 3, 0, none, [])), (489, (.iconst 2, 1, 0, 0, some (xI 2), [])), (490, (.iadd, 1, 0, 0, none, [])), (491, (.iaload, 1, 0, 0, none, [])), (492, (.invokevirtual 55, 3, 119, 115, some (xI 0), [])), (495, (.if_icmp .eq 647, 3, 1142, 0, none, [])), (498, (.iconst 0, 1, 0, 0, some (xI 0), [])), (499, (.ireturn, 1, 0, 1, none, [])), (500, (.aload_n 1, 1, 1, 0, none, [])), (501, (.aload_n 0, 1, 0, 0, none, [])), (502, (.iload_n 3, 1, 3, 0, none, [])), (503, (.iconst 1, 1, 0, 0, some (xI 1), [])), (504, (.iadd, 1, 0, 0, none, [])), (505, (.iaload, 1, 0, 0, none, [])), (506, (.aload_n 0, 1, 0, 0, none, [])), (507, (.iload_n 3, 1, 3, 0, none, [])), (508, (.iconst 2, 1, 0, 0, some (xI 2), []))]
def xc_148_11 : List (Nat × xEn) := [(509, (.iadd, 1, 0, 0, none, [])), (510, (.iaload, 1, 0, 0, none, [])), (511, (.i2l, 1, 0, 0, none, [])), (512, (.bipush 32, 2, 0, 0, some (xI 32), [])), (514, (.lshl, 1, 0, 0, none, [])), (515, (.aload_n 0, 1, 0, 0, none, [])), (516, (.iload_n 3, 1, 3, 0, none, [])), (517, (.iconst 3, 1, 0, 0, some (xI 3), [])), (518, (.iadd, 1, 0, 0, none, [])), (519, (.iaload, 1, 0, 0, none, [])), (520, (.i2l, 1, 0, 0, none, [])), (521, (.ldc2_w 41, 3, 0, 0, some (xJ (4294967295)), [])), (524, (.land, 1, 0, 0, none, [])), (525, (.lor, 1, 0, 0, none, [])), (526, (.invokevirtual 56, 3, 49, 99, some (xI 0), [])), (529, (.aload_n 2, 1, 2, 0, none, [])), (530, (.aload_n 0, 1, 0, 0, none, [])), (531, (.iload_n 3, 1, 3, 0, none, [])), (532, (.iconst 1, 1, 0, 0, some (xI 1), [])), (533, (.iadd, 1, 0, 0, none, [])), (534, (.iaload, 1, 0, 0, none, [])), (535, (.aload_n 0, 1, 0, 0, none, [])), (536, (.iload_n 3, 1, 3, 0, none, [])), (537, (.iconst 2, 1, 0, 0, some (xI 2), [])), (538, (.iadd, 1, 0, 0, none, [])), (539, (.iaload, 1, 0, 0, none, [])), (540, (.i2l, 1, 0, 0, none, [])), (541, (.bipush 32, 2, 0, 0, some (xI 32), [])), (543, (.lshl, 1, 0, 0, none, []))]
def xc_148_12 : List (Nat × xEn) := [(544, (.aload_n 0, 1, 0, 0, none, [])), (545, (.iload_n 3, 1, 3, 0, none, [])), (546, (.iconst 3, 1, 0, 0, some (xI 3), [])), (547, (.iadd, 1, 0, 0, none, [])), (548, (.iaload, 1, 0, 0, none, [])), (549, (.i2l, 1, 0, 0, none, [])), (550, (.ldc2_w 41, 3, 0, 0, some (xJ (4294967295)), [])), (553, (.land, 1, 0, 0, none, [])), (554, (.lor, 1, 0, 0, none, [])), (555, (.invokevirtual 60, 3, 120, 115, some (xI 0), [])), (558, (.if_icmp .eq 584, 3, 1142, 0, none, [])), (561, (.iconst 0, 1, 0, 0, some (xI 0), [])), (562, (.ireturn, 1, 0, 1, none, [])), (563, (.aload_n 1, 1, 1, 0, none, [])), (564, (.aload_n 0, 1, 0, 0, none, [])), (565, (.iload_n 3, 1, 3, 0, none, [])), (566, (.iconst 1, 1, 0, 0, some (xI 1), [])), (567, (.iadd, 1, 0, 0, none, [])), (568, (.iaload, 1, 0, 0, none, [])), (569, (.invokevirtual 61, 3, 50, 98, some (xJ 0), [])), (572, (.aload_n 2, 1, 2, 0, none, [])), (573, (.aload_n 0, 1, 0, 0, none, [])), (574, (.iload_n 3, 1, 3, 0, none, [])), (575, (.iconst 1, 1, 0, 0, some (xI 1), [])), (576, (.iadd, 1, 0, 0, none, [])), (577, (.iaload, 1, 0, 0, none, [])), (578, (.invokevirtual 65, 3, 122, 114, some (xJ 0), [])), (581, (.lcmp, 1, 0, 0, none, [])), (582, (.ifCond .eq 560, 3, 1142, 0, none, []))]
def xc_148_13 : List (Nat × xEn) := [(585, (.iconst 0, 1, 0, 0, some (xI 0), [])), (586, (.ireturn, 1, 0, 1, none, [])), (587, (.aload_n 1, 1, 1, 0, none, [])), (588, (.aload_n 0, 1, 0, 0, none, [])), (589, (.iload_n 3, 1, 3, 0, none, [])), (590, (.iconst 1, 1, 0, 0, some (xI 1), [])), (591, (.iadd, 1, 0, 0, none, [])), (592, (.iaload, 1, 0, 0, none, [])), (593, (.invokevirtual 66, 3, 51, 98, some (xI 0), [])), (596, (.aload_n 2, 1, 2, 0, none, [])), (597, (.aload_n 0, 1, 0, 0, none, [])), (598, (.iload_n 3, 1, 3, 0, none, [])), (599, (.iconst 1, 1, 0, 0, some (xI 1), [])), (600, (.iadd, 1, 0, 0, none, [])), (601, (.iaload, 1, 0, 0, none, [])), (602, (.invokevirtual 69, 3, 123, 114, some (xI 0), [])), (605, (.if_icmp .eq 537, 3, 1142, 0, none, [])), (608, (.iconst 0, 1, 0, 0, some (xI 0), [])), (609, (.ireturn, 1, 0, 1, none, [])), (610, (.aload_n 1, 1, 1, 0, none, [])), (611, (.aload_n 0, 1, 0, 0, none, [])), (612, (.iload_n 3, 1, 3, 0, none, [])), (613, (.iconst 1, 1, 0, 0, some (xI 1), [])), (614, (.iadd, 1, 0, 0, none, [])), (615, (.iaload, 1, 0, 0, none, [])), (616, (.aload_n 0, 1, 0, 0, none, [])), (617, (.iload_n 3, 1, 3, 0, none, [])), (618, (.iconst 2, 1, 0, 0, some (xI 2), [])), (619, (.iadd, 1, 0, 0, none, []))]
def xc_148_14 : List (Nat × xEn) := [(620, (.iaload, 1, 0, 0, none, [])), (621, (.aload_n 0, 1, 0, 0, none, [])), (622, (.iload_n 3, 1, 3, 0, none, [])), (623, (.iconst 3, 1, 0, 0, some (xI 3), [])), (624, (.iadd, 1, 0, 0, none, [])), (625, (.iaload, 1, 0, 0, none, [])), (626, (.invokevirtual 70, 3, 52, 100, some (xI 0), [])), (629, (.aload_n 2, 1, 2, 0, none, [])), (630, (.aload_n 0, 1, 0, 0, none, [])), (631, (.iload_n 3, 1, 3, 0, none, [])), (632, (.iconst 1, 1, 0, 0, some (xI 1), [])), (633, (.iadd, 1, 0, 0, none, [])), (634, (.iaload, 1, 0, 0, none, [])), (635, (.aload_n 0, 1, 0, 0, none, [])), (636, (.iload_n 3, 1, 3, 0, none, [])), (637, (.iconst 2, 1, 0, 0, some (xI 2), [])), (638, (.iadd, 1, 0, 0, none, [])), (639, (.iaload, 1, 0, 0, none, [])), (640, (.aload_n 0, 1, 0, 0, none, [])), (641, (.iload_n 3, 1, 3, 0, none, [])), (642, (.iconst 3, 1, 0, 0, some (xI 3), [])), (643, (.iadd, 1, 0, 0, none, [])), (644, (.iaload, 1, 0, 0, none, [])), (645, (.invokevirtual 73, 3, 124, 116, some (xI 0), [])), (648, (.if_icmp .eq 494, 3, 1142, 0, none, [])), (651, (.iconst 0, 1, 0, 0, some (xI 0), [])), (652, (.ireturn, 1, 0, 1, none, [])), (653, (.aload_n 1, 1, 1, 0, none, [])), (654, (.aload_n 0, 1, 0, 0, none, []))]
def xc_148_15 : List (Nat × xEn) := [(655, (.iload_n 3, 1, 3, 0, none, [])), (656, (.iconst 1, 1, 0, 0, some (xI 1), [])), (657, (.iadd, 1, 0, 0, none, [])), (658, (.iaload, 1, 0, 0, none, [])), (659, (.aload_n 0, 1, 0, 0, none, [])), (660, (.iload_n 3, 1, 3, 0, none, [])), (661, (.iconst 2, 1, 0, 0, some (xI 2), [])), (662, (.iadd, 1, 0, 0, none, [])), (663, (.iaload, 1, 0, 0, none, [])), (664, (.invokevirtual 74, 3, 53, 99, some (xI 0), [])), (667, (.aload_n 2, 1, 2, 0, none, [])), (668, (.aload_n 0, 1, 0, 0, none, [])), (669, (.iload_n 3, 1, 3, 0, none, [])), (670, (.iconst 1, 1, 0, 0, some (xI 1), [])), (671, (.iadd, 1, 0, 0, none, [])), (672, (.iaload, 1, 0, 0, none, [])), (673, (.aload_n 0, 1, 0, 0, none, [])), (674, (.iload_n 3, 1, 3, 0, none, [])), (675, (.iconst 2, 1, 0, 0, some (xI 2), [])), (676, (.iadd, 1, 0, 0, none, [])), (677, (.iaload, 1, 0, 0, none, [])), (678, (.invokevirtual 77, 3, 127, 115, some (xI 0), [])), (681, (.if_icmp .eq 461, 3, 1142, 0, none, [])), (684, (.iconst 0, 1, 0, 0, some (xI 0), [])), (685, (.ireturn, 1, 0, 1, none, [])), (686, (.aload_n 1, 1, 1, 0, none, [])), (687, (.aload_n 0, 1, 0, 0, none, [])), (688, (.iload_n 3, 1, 3, 0, none, [])), (689, (.iconst 1, 1, 0, 0, some (xI 1), []))]
def xc_148_16 : List (Nat × xEn) := [(690, (.iadd, 1, 0, 0, none, [])), (691, (.iaload, 1, 0, 0, none, [])), (692, (.aload_n 0, 1, 0, 0, none, [])), (693, (.iload_n 3, 1, 3, 0, none, [])), (694, (.iconst 2, 1, 0, 0, some (xI 2), [])), (695, (.iadd, 1, 0, 0, none, [])), (696, (.iaload, 1, 0, 0, none, [])), (697, (.invokevirtual 78, 3, 54, 99, some (xI 0), [])), (700, (.aload_n 2, 1, 2, 0, none, [])), (701, (.aload_n 0, 1, 0, 0, none, [])), (702, (.iload_n 3, 1, 3, 0, none, [])), (703, (.iconst 1, 1, 0, 0, some (xI 1), [])), (704, (.iadd, 1, 0, 0, none, [])), (705, (.iaload, 1, 0, 0, none, [])), (706, (.aload_n 0, 1, 0, 0, none, [])), (707, (.iload_n 3, 1, 3, 0, none, [])), (708, (.iconst 2, 1, 0, 0, some (xI 2), [])), (709, (.iadd, 1, 0, 0, none, [])), (710, (.iaload, 1, 0, 0, none, [])), (711, (.invokevirtual 81, 3, 128, 115, some (xI 0), [])), (714, (.if_icmp .eq 428, 3, 1142, 0, none, [])), (717, (.iconst 0, 1, 0, 0, some (xI 0), [])), (718, (.ireturn, 1, 0, 1, none, [])), (719, (.aload_n 1, 1, 1, 0, none, [])), (720, (.aload_n 0, 1, 0, 0, none, [])), (721, (.iload_n 3, 1, 3, 0, none, [])), (722, (.iconst 1, 1, 0, 0, some (xI 1), [])), (723, (.iadd, 1, 0, 0, none, [])), (724, (.iaload, 1, 0, 0, none, []))]
def xc_148_17 : List (Nat × xEn) := [(725, (.invokevirtual 82, 3, 55, 98, some (xI 0), [])), (728, (.aload_n 2, 1, 2, 0, none, [])), (729, (.aload_n 0, 1, 0, 0, none, [])), (730, (.iload_n 3, 1, 3, 0, none, [])), (731, (.iconst 1, 1, 0, 0, some (xI 1), [])), (732, (.iadd, 1, 0, 0, none, [])), (733, (.iaload, 1, 0, 0, none, [])), (734, (.invokevirtual 85, 3, 129, 114, some (xI 0), [])), (737, (.if_icmp .eq 405, 3, 1142, 0, none, [])), (740, (.iconst 0, 1, 0, 0, some (xI 0), [])), (741, (.ireturn, 1, 0, 1, none, [])), (742, (.aload_n 1, 1, 1, 0, none, [])), (743, (.aload_n 0, 1, 0, 0, none, [])), (744, (.iload_n 3, 1, 3, 0, none, [])), (745, (.iconst 1, 1, 0, 0, some (xI 1), [])), (746, (.iadd, 1, 0, 0, none, [])), (747, (.iaload, 1, 0, 0, none, [])), (748, (.aload_n 0, 1, 0, 0, none, [])), (749, (.iload_n 3, 1, 3, 0, none, [])), (750, (.iconst 2, 1, 0, 0, some (xI 2), [])), (751, (.iadd, 1, 0, 0, none, [])), (752, (.iaload, 1, 0, 0, none, [])), (753, (.aload_n 0, 1, 0, 0, none, [])), (754, (.iload_n 3, 1, 3, 0, none, [])), (755, (.iconst 3, 1, 0, 0, some (xI 3), [])), (756, (.iadd, 1, 0, 0, none, [])), (757, (.iaload, 1, 0, 0, none, [])), (758, (.aload_n 0, 1, 0, 0, none, [])), (759, (.iload_n 3, 1, 3, 0, none, []))]
def xc_148_18 : List (Nat × xEn) := [(760, (.iconst 4, 1, 0, 0, some (xI 4), [])), (761, (.iadd, 1, 0, 0, none, [])), (762, (.iaload, 1, 0, 0, none, [])), (763, (.aload_n 0, 1, 0, 0, none, [])), (764, (.iload_n 3, 1, 3, 0, none, [])), (765, (.iconst 5, 1, 0, 0, some (xI 5), [])), (766, (.iadd, 1, 0, 0, none, [])), (767, (.iaload, 1, 0, 0, none, [])), (768, (.invokevirtual 86, 3, 56, 102, some (xI 0), [])), (771, (.aload_n 2, 1, 2, 0, none, [])), (772, (.aload_n 0, 1, 0, 0, none, [])), (773, (.iload_n 3, 1, 3, 0, none, [])), (774, (.iconst 1, 1, 0, 0, some (xI 1), [])), (775, (.iadd, 1, 0, 0, none, [])), (776, (.iaload, 1, 0, 0, none, [])), (777, (.aload_n 0, 1, 0, 0, none, [])), (778, (.iload_n 3, 1, 3, 0, none, [])), (779, (.iconst 2, 1, 0, 0, some (xI 2), [])), (780, (.iadd, 1, 0, 0, none, [])), (781, (.iaload, 1, 0, 0, none, [])), (782, (.aload_n 0, 1, 0, 0, none, [])), (783, (.iload_n 3, 1, 3, 0, none, [])), (784, (.iconst 3, 1, 0, 0, some (xI 3), [])), (785, (.iadd, 1, 0, 0, none, [])), (786, (.iaload, 1, 0, 0, none, [])), (787, (.aload_n 0, 1, 0, 0, none, [])), (788, (.iload_n 3, 1, 3, 0, none, [])), (789, (.iconst 4, 1, 0, 0, some (xI 4), [])), (790, (.iadd, 1, 0, 0, none, []))]
def xc_148_19 : List (Nat × xEn) := [(791, (.iaload, 1, 0, 0, none, [])), (792, (.aload_n 0, 1, 0, 0, none, [])), (793, (.iload_n 3, 1, 3, 0, none, [])), (794, (.iconst 5, 1, 0, 0, some (xI 5), [])), (795, (.iadd, 1, 0, 0, none, [])), (796, (.iaload, 1, 0, 0, none, [])), (797, (.invokevirtual 90, 3, 131, 118, some (xI 0), [])), (800, (.if_icmp .eq 342, 3, 1142, 0, none, [])), (803, (.iconst 0, 1, 0, 0, some (xI 0), [])), (804, (.ireturn, 1, 0, 1, none, [])), (805, (.aload_n 1, 1, 1, 0, none, [])), (806, (.aload_n 0, 1, 0, 0, none, [])), (807, (.iload_n 3, 1, 3, 0, none, [])), (808, (.iconst 1, 1, 0, 0, some (xI 1), [])), (809, (.iadd, 1, 0, 0, none, [])), (810, (.iaload, 1, 0, 0, none, [])), (811, (.aload_n 0, 1, 0, 0, none, [])), (812, (.iload_n 3, 1, 3, 0, none, [])), (813, (.iconst 2, 1, 0, 0, some (xI 2), [])), (814, (.iadd, 1, 0, 0, none, [])), (815, (.iaload, 1, 0, 0, none, [])), (816, (.invokevirtual 91, 3, 57, 99, some (xI 0), [])), (819, (.aload_n 2, 1, 2, 0, none, [])), (820, (.aload_n 0, 1, 0, 0, none, [])), (821, (.iload_n 3, 1, 3, 0, none, [])), (822, (.iconst 1, 1, 0, 0, some (xI 1), [])), (823, (.iadd, 1, 0, 0, none, [])), (824, (.iaload, 1, 0, 0, none, [])), (825, (.aload_n 0, 1, 0, 0, none, []))]
def xc_148_20 : List (Nat × xEn) := [(826, (.iload_n 3, 1, 3, 0, none, [])), (827, (.iconst 2, 1, 0, 0, some (xI 2), [])), (828, (.iadd, 1, 0, 0, none, [])), (829, (.iaload, 1, 0, 0, none, [])), (830, (.invokevirtual 94, 3, 133, 115, some (xI 0), [])), (833, (.if_icmp .eq 309, 3, 1142, 0, none, [])), (836, (.iconst 0, 1, 0, 0, some (xI 0), [])), (837, (.ireturn, 1, 0, 1, none, [])), (838, (.aload_n 1, 1, 1, 0, none, [])), (839, (.aload_n 0, 1, 0, 0, none, [])), (840, (.iload_n 3, 1, 3, 0, none, [])), (841, (.iconst 1, 1, 0, 0, some (xI 1), [])), (842, (.iadd, 1, 0, 0, none, [])), (843, (.iaload, 1, 0, 0, none, [])), (844, (.aload_n 0, 1, 0, 0, none, [])), (845, (.iload_n 3, 1, 3, 0, none, [])), (846, (.iconst 2, 1, 0, 0, some (xI 2), [])), (847, (.iadd, 1, 0, 0, none, [])), (848, (.iaload, 1, 0, 0, none, [])), (849, (.aload_n 0, 1, 0, 0, none, [])), (850, (.iload_n 3, 1, 3, 0, none, [])), (851, (.iconst 3, 1, 0, 0, some (xI 3), [])), (852, (.iadd, 1, 0, 0, none, [])), (853, (.iaload, 1, 0, 0, none, [])), (854, (.aload_n 0, 1, 0, 0, none, [])), (855, (.iload_n 3, 1, 3, 0, none, [])), (856, (.iconst 4, 1, 0, 0, some (xI 4), [])), (857, (.iadd, 1, 0, 0, none, [])), (858, (.iaload, 1, 0, 0, none, []))]
def xc_148_21 : List (Nat × xEn) := [(859, (.i2l, 1, 0, 0, none, [])), (860, (.bipush 32, 2, 0, 0, some (xI 32), [])), (862, (.lshl, 1, 0, 0, none, [])), (863, (.aload_n 0, 1, 0, 0, none, [])), (864, (.iload_n 3, 1, 3, 0, none, [])), (865, (.iconst 5, 1, 0, 0, some (xI 5), [])), (866, (.iadd, 1, 0, 0, none, [])), (867, (.iaload, 1, 0, 0, none, [])), (868, (.i2l, 1, 0, 0, none, [])), (869, (.ldc2_w 41, 3, 0, 0, some (xJ (4294967295)), [])), (872, (.land, 1, 0, 0, none, [])), (873, (.lor, 1, 0, 0, none, [])), (874, (.invokevirtual 95, 3, 58, 101, some (xI 0), [])), (877, (.aload_n 2, 1, 2, 0, none, [])), (878, (.aload_n 0, 1, 0, 0, none, [])), (879, (.iload_n 3, 1, 3, 0, none, [])), (880, (.iconst 1, 1, 0, 0, some (xI 1), [])), (881, (.iadd, 1, 0, 0, none, [])), (882, (.iaload, 1, 0, 0, none, [])), (883, (.aload_n 0, 1, 0, 0, none, [])), (884, (.iload_n 3, 1, 3, 0, none, [])), (885, (.iconst 2, 1, 0, 0, some (xI 2), [])), (886, (.iadd, 1, 0, 0, none, [])), (887, (.iaload, 1, 0, 0, none, [])), (888, (.aload_n 0, 1, 0, 0, none, [])), (889, (.iload_n 3, 1, 3, 0, none, [])), (890, (.iconst 3, 1, 0, 0, some (xI 3), [])), (891, (.iadd, 1, 0, 0, none, [])), (892, (.iaload, 1, 0, 0, none, []))]
def xc_148_22 : List (Nat × xEn) := [(893, (.aload_n 0, 1, 0, 0, none, [])), (894, (.iload_n 3, 1, 3, 0, none, [])), (895, (.iconst 4, 1, 0, 0, some (xI 4), [])), (896, (.iadd, 1, 0, 0, none, [])), (897, (.iaload, 1, 0, 0, none, [])), (898, (.i2l, 1, 0, 0, none, [])), (899, (.bipush 32, 2, 0, 0, some (xI 32), [])), (901, (.lshl, 1, 0, 0, none, [])), (902, (.aload_n 0, 1, 0, 0, none, [])), (903, (.iload_n 3, 1, 3, 0, none, [])), (904, (.iconst 5, 1, 0, 0, some (xI 5), [])), (905, (.iadd, 1, 0, 0, none, [])), (906, (.iaload, 1, 0, 0, none, [])), (907, (.i2l, 1, 0, 0, none, [])), (908, (.ldc2_w 41, 3, 0, 0, some (xJ (4294967295)), [])), (911, (.land, 1, 0, 0, none, [])), (912, (.lor, 1, 0, 0, none, [])), (913, (.invokevirtual 98, 3, 135, 117, some (xI 0), [])), (916, (.if_icmp .eq 226, 3, 1142, 0, none, [])), (919, (.iconst 0, 1, 0, 0, some (xI 0), [])), (920, (.ireturn, 1, 0, 1, none, [])), (921, (.aload_n 1, 1, 1, 0, none, [])), (922, (.aload_n 0, 1, 0, 0, none, [])), (923, (.iload_n 3, 1, 3, 0, none, [])), (924, (.iconst 1, 1, 0, 0, some (xI 1), [])), (925, (.iadd, 1, 0, 0, none, [])), (926, (.iaload, 1, 0, 0, none, [])), (927, (.aload_n 0, 1, 0, 0, none, [])), (928, (.iload_n 3, 1, 3, 0, none, []))]
def xc_148_23 : List (Nat × xEn) := [(929, (.iconst 2, 1, 0, 0, some (xI 2), [])), (930, (.iadd, 1, 0, 0, none, [])), (931, (.iaload, 1, 0, 0, none, [])), (932, (.aload_n 0, 1, 0, 0, none, [])), (933, (.iload_n 3, 1, 3, 0, none, [])), (934, (.iconst 3, 1, 0, 0, some (xI 3), [])), (935, (.iadd, 1, 0, 0, none, [])), (936, (.iaload, 1, 0, 0, none, [])), (937, (.invokevirtual 99, 3, 59, 100, some (xI 0), [])), (940, (.aload_n 2, 1, 2, 0, none, [])), (941, (.aload_n 0, 1, 0, 0, none, [])), (942, (.iload_n 3, 1, 3, 0, none, [])), (943, (.iconst 1, 1, 0, 0, some (xI 1), [])), (944, (.iadd, 1, 0, 0, none, [])), (945, (.iaload, 1, 0, 0, none, [])), (946, (.aload_n 0, 1, 0, 0, none, [])), (947, (.iload_n 3, 1, 3, 0, none, [])), (948, (.iconst 2, 1, 0, 0, some (xI 2), [])), (949, (.iadd, 1, 0, 0, none, [])), (950, (.iaload, 1, 0, 0, none, [])), (951, (.aload_n 0, 1, 0, 0, none, [])), (952, (.iload_n 3, 1, 3, 0, none, [])), (953, (.iconst 3, 1, 0, 0, some (xI 3), [])), (954, (.iadd, 1, 0, 0, none, [])), (955, (.iaload, 1, 0, 0, none, [])), (956, (.invokevirtual 102, 3, 137, 116, some (xI 0), [])), (959, (.if_icmp .eq 183, 3, 1142, 0, none, [])), (962, (.iconst 0, 1, 0, 0, some (xI 0), [])), (963, (.ireturn, 1, 0, 1, none, []))]
def xc_148_24 : List (Nat × xEn) := [(964, (.aload_n 1, 1, 1, 0, none, [])), (965, (.aload_n 0, 1, 0, 0, none, [])), (966, (.iload_n 3, 1, 3, 0, none, [])), (967, (.iconst 1, 1, 0, 0, some (xI 1), [])), (968, (.iadd, 1, 0, 0, none, [])), (969, (.iaload, 1, 0, 0, none, [])), (970, (.aload_n 0, 1, 0, 0, none, [])), (971, (.iload_n 3, 1, 3, 0, none, [])), (972, (.iconst 2, 1, 0, 0, some (xI 2), [])), (973, (.iadd, 1, 0, 0, none, [])), (974, (.iaload, 1, 0, 0, none, [])), (975, (.invokevirtual 103, 3, 60, 99, some (xI 0), [])), (978, (.aload_n 2, 1, 2, 0, none, [])), (979, (.aload_n 0, 1, 0, 0, none, [])), (980, (.iload_n 3, 1, 3, 0, none, [])), (981, (.iconst 1, 1, 0, 0, some (xI 1), [])), (982, (.iadd, 1, 0, 0, none, [])), (983, (.iaload, 1, 0, 0, none, [])), (984, (.aload_n 0, 1, 0, 0, none, [])), (985, (.iload_n 3, 1, 3, 0, none, [])), (986, (.iconst 2, 1, 0, 0, some (xI 2), [])), (987, (.iadd, 1, 0, 0, none, [])), (988, (.iaload, 1, 0, 0, none, [])), (989, (.invokevirtual 106, 3, 138, 115, some (xI 0), [])), (992, (.if_icmp .eq 150, 3, 1142, 0, none, [])), (995, (.iconst 0, 1, 0, 0, some (xI 0), [])), (996, (.ireturn, 1, 0, 1, none, [])), (997, (.aload_n 1, 1, 1, 0, none, [])), (998, (.aload_n 0, 1, 0, 0, none, []))]
def xc_148_25 : List (Nat × xEn) := [(999, (.iload_n 3, 1, 3, 0, none, [])), (1000, (.iconst 1, 1, 0, 0, some (xI 1), [])), (1001, (.iadd, 1, 0, 0, none, [])), (1002, (.iaload, 1, 0, 0, none, [])), (1003, (.aload_n 0, 1, 0, 0, none, [])), (1004, (.iload_n 3, 1, 3, 0, none, [])), (1005, (.iconst 2, 1, 0, 0, some (xI 2), [])), (1006, (.iadd, 1, 0, 0, none, [])), (1007, (.iaload, 1, 0, 0, none, [])), (1008, (.aload_n 0, 1, 0, 0, none, [])), (1009, (.iload_n 3, 1, 3, 0, none, [])), (1010, (.iconst 3, 1, 0, 0, some (xI 3), [])), (1011, (.iadd, 1, 0, 0, none, [])), (1012, (.iaload, 1, 0, 0, none, [])), (1013, (.invokevirtual 107, 3, 61, 100, some (xI 0), [])), (1016, (.aload_n 2, 1, 2, 0, none, [])), (1017, (.aload_n 0, 1, 0, 0, none, [])), (1018, (.iload_n 3, 1, 3, 0, none, [])), (1019, (.iconst 1, 1, 0, 0, some (xI 1), [])), (1020, (.iadd, 1, 0, 0, none, [])), (1021, (.iaload, 1, 0, 0, none, [])), (1022, (.aload_n 0, 1, 0, 0, none, [])), (1023, (.iload_n 3, 1, 3, 0, none, [])), (1024, (.iconst 2, 1, 0, 0, some (xI 2), [])), (1025, (.iadd, 1, 0, 0, none, [])), (1026, (.iaload, 1, 0, 0, none, [])), (1027, (.aload_n 0, 1, 0, 0, none, [])), (1028, (.iload_n 3, 1, 3, 0, none, [])), (1029, (.iconst 3, 1, 0, 0, some (xI 3), []))]
def xc_148_26 : List (Nat × xEn) := [(1030, (.iadd, 1, 0, 0, none, [])), (1031, (.iaload, 1, 0, 0, none, [])), (1032, (.invokevirtual 110, 3, 139, 116, some (xI 0), [])), (1035, (.if_icmp .eq 107, 3, 1142, 0, none, [])), (1038, (.iconst 0, 1, 0, 0, some (xI 0), [])), (1039, (.ireturn, 1, 0, 1, none, [])), (1040, (.aload_n 1, 1, 1, 0, none, [])), (1041, (.aload_n 0, 1, 0, 0, none, [])), (1042, (.iload_n 3, 1, 3, 0, none, [])), (1043, (.iconst 1, 1, 0, 0, some (xI 1), [])), (1044, (.iadd, 1, 0, 0, none, [])), (1045, (.iaload, 1, 0, 0, none, [])), (1046, (.invokevirtual 111, 3, 62, 98, some (xI 0), [])), (1049, (.aload_n 2, 1, 2, 0, none, [])), (1050, (.aload_n 0, 1, 0, 0, none, [])), (1051, (.iload_n 3, 1, 3, 0, none, [])), (1052, (.iconst 1, 1, 0, 0, some (xI 1), [])), (1053, (.iadd, 1, 0, 0, none, [])), (1054, (.iaload, 1, 0, 0, none, [])), (1055, (.invokevirtual 114, 3, 141, 114, some (xI 0), [])), (1058, (.if_icmp .eq 84, 3, 1142, 0, none, [])), (1061, (.iconst 0, 1, 0, 0, some (xI 0), [])), (1062, (.ireturn, 1, 0, 1, none, [])), (1063, (.aload_n 1, 1, 1, 0, none, [])), (1064, (.aload_n 0, 1, 0, 0, none, [])), (1065, (.iload_n 3, 1, 3, 0, none, [])), (1066, (.iconst 1, 1, 0, 0, some (xI 1), [])), (1067, (.iadd, 1, 0, 0, none, [])), (1068, (.iaload, 1, 0, 0, none, []))]
def xc_148_27 : List (Nat × xEn) := [(1069, (.invokevirtual 115, 3, 63, 98, some (xI 0), [])), (1072, (.aload_n 2, 1, 2, 0, none, [])), (1073, (.aload_n 0, 1, 0, 0, none, [])), (1074, (.iload_n 3, 1, 3, 0, none, [])), (1075, (.iconst 1, 1, 0, 0, some (xI 1), [])), (1076, (.iadd, 1, 0, 0, none, [])), (1077, (.iaload, 1, 0, 0, none, [])), (1078, (.invokevirtual 118, 3, 142, 114, some (xI 0), [])), (1081, (.if_icmp .eq 61, 3, 1142, 0, none, [])), (1084, (.iconst 0, 1, 0, 0, some (xI 0), [])), (1085, (.ireturn, 1, 0, 1, none, [])), (1086, (.aload_n 1, 1, 1, 0, none, [])), (1087, (.aload_n 0, 1, 0, 0, none, [])), (1088, (.iload_n 3, 1, 3, 0, none, [])), (1089, (.iconst 1, 1, 0, 0, some (xI 1), [])), (1090, (.iadd, 1, 0, 0, none, [])), (1091, (.iaload, 1, 0, 0, none, [])), (1092, (.aload_n 0, 1, 0, 0, none, [])), (1093, (.iload_n 3, 1, 3, 0, none, [])), (1094, (.iconst 2, 1, 0, 0, some (xI 2), [])), (1095, (.iadd, 1, 0, 0, none, [])), (1096, (.iaload, 1, 0, 0, none, [])), (1097, (.invokevirtual 119, 3, 64, 99, some (xI 0), [])), (1100, (.aload_n 2, 1, 2, 0, none, [])), (1101, (.aload_n 0, 1, 0, 0, none, [])), (1102, (.iload_n 3, 1, 3, 0, none, [])), (1103, (.iconst 1, 1, 0, 0, some (xI 1), [])), (1104, (.iadd, 1, 0, 0, none, [])), (1105, (.iaload, 1, 0, 0, none, []))]
def xc_148_28 : List (Nat × xEn) := [(1106, (.aload_n 0, 1, 0, 0, none, [])), (1107, (.iload_n 3, 1, 3, 0, none, [])), (1108, (.iconst 2, 1, 0, 0, some (xI 2), [])), (1109, (.iadd, 1, 0, 0, none, [])), (1110, (.iaload, 1, 0, 0, none, [])), (1111, (.invokevirtual 122, 3, 143, 115, some (xI 0), [])), (1114, (.if_icmp .eq 28, 3, 1142, 0, none, [])), (1117, (.iconst 0, 1, 0, 0, some (xI 0), [])), (1118, (.ireturn, 1, 0, 1, none, [])), (1119, (.aload_n 1, 1, 1, 0, none, [])), (1120, (.aload_n 0, 1, 0, 0, none, [])), (1121, (.iload_n 3, 1, 3, 0, none, [])), (1122, (.iconst 1, 1, 0, 0, some (xI 1), [])), (1123, (.iadd, 1, 0, 0, none, [])), (1124, (.iaload, 1, 0, 0, none, [])), (1125, (.invokevirtual 123, 3, 65, 98, some (xI 0), [])), (1128, (.aload_n 2, 1, 2, 0, none, [])), (1129, (.aload_n 0, 1, 0, 0, none, [])), (1130, (.iload_n 3, 1, 3, 0, none, [])), (1131, (.iconst 1, 1, 0, 0, some (xI 1), [])), (1132, (.iadd, 1, 0, 0, none, [])), (1133, (.iaload, 1, 0, 0, none, [])), (1134, (.invokevirtual 126, 3, 146, 114, some (xI 0), [])), (1137, (.if_icmp .eq 5, 3, 1142, 0, none, [])), (1140, (.iconst 0, 1, 0, 0, some (xI 0), [])), (1141, (.ireturn, 1, 0, 1, none, [])), (1142, (.iinc 3 6, 3, 3, 0, some (xI (6)), [])), (1145, (.goto (-1127), 3, 18, 0, none, [])), (1148, (.iconst 1, 1, 0, 0, some (xI 1), []))]
def xc_148_29 : List (Nat × xEn) := [(1149, (.ireturn, 1, 0, 1, none, []))]
def xc_148 : List (Nat × List (Nat × xEn)) := [(159, xc_148_0), (194, xc_148_1), (225, xc_148_2), (260, xc_148_3), (299, xc_148_4), (332, xc_148_5), (369, xc_148_6), (403, xc_148_7), (439, xc_148_8), (474, xc_148_9), (509, xc_148_10), (544, xc_148_11), (585, xc_148_12), (620, xc_148_13), (655, xc_148_14), (690, xc_148_15), (725, xc_148_16), (760, xc_148_17), (791, xc_148_18), (826, xc_148_19), (859, xc_148_20), (893, xc_148_21), (929, xc_148_22), (964, xc_148_23), (999, xc_148_24), (1030, xc_148_25), (1069, xc_148_26), (1106, xc_148_27), (1149, xc_148_28), (1150, xc_148_29)]
def xcode : List (Nat × List (Nat × List (Nat × List (Nat × xEn)))) := [(12, [(0, xc_0), (1, xc_1), (2, xc_2), (3, xc_3), (4, xc_4), (5, xc_5), (6, xc_6), (7, xc_7), (8, xc_8), (9, xc_9), (10, xc_10), (11, xc_11)]),
  (24, [(12, xc_12), (13, xc_13), (14, xc_14), (15, xc_15), (16, xc_16), (17, xc_17), (18, xc_18), (19, xc_19), (20, xc_20), (21, xc_21), (22, xc_22), (23, xc_23)]),
  (36, [(24, xc_24), (25, xc_25), (26, xc_26), (27, xc_27), (28, xc_28), (29, xc_29), (30, xc_30), (31, xc_31), (32, xc_32), (33, xc_33), (34, xc_34), (35, xc_35)]),
  (48, [(36, xc_36), (37, xc_37), (38, xc_38), (39, xc_39), (40, xc_40), (41, xc_41), (42, xc_42), (43, xc_43), (44, xc_44), (45, xc_45), (46, xc_46), (47, xc_47)]),
  (60, [(48, xc_48), (49, xc_49), (50, xc_50), (51, xc_51), (52, xc_52), (53, xc_53), (54, xc_54), (55, xc_55), (56, xc_56), (57, xc_57), (58, xc_58), (59, xc_59)]),
  (72, [(60, xc_60), (61, xc_61), (62, xc_62), (63, xc_63), (64, xc_64), (65, xc_65), (66, xc_66), (67, xc_67), (68, xc_68), (69, xc_69), (70, xc_70), (71, xc_71)]),
  (84, [(72, xc_72), (73, xc_73), (74, xc_74), (75, xc_75), (76, xc_76), (77, xc_77), (78, xc_78), (79, xc_79), (80, xc_80), (81, xc_81), (82, xc_82), (83, xc_83)]),
  (96, [(84, xc_84), (85, xc_85), (86, xc_86), (87, xc_87), (88, xc_88), (89, xc_89), (90, xc_90), (91, xc_91), (92, xc_92), (93, xc_93), (94, xc_94), (95, xc_95)]),
  (108, [(96, xc_96), (97, xc_97), (98, xc_98), (99, xc_99), (100, xc_100), (101, xc_101), (102, xc_102), (103, xc_103), (104, xc_104), (105, xc_105), (106, xc_106), (107, xc_107)]),
  (120, [(108, xc_108), (109, xc_109), (110, xc_110), (111, xc_111), (112, xc_112), (113, xc_113), (114, xc_114), (115, xc_115), (116, xc_116), (117, xc_117), (118, xc_118), (119, xc_119)]),
  (132, [(120, xc_120), (121, xc_121), (122, xc_122), (123, xc_123), (124, xc_124), (125, xc_125), (126, xc_126), (127, xc_127), (128, xc_128), (129, xc_129), (130, xc_130), (131, xc_131)]),
  (144, [(132, xc_132), (133, xc_133), (134, xc_134), (135, xc_135), (136, xc_136), (137, xc_137), (138, xc_138), (139, xc_139), (140, xc_140), (141, xc_141), (142, xc_142), (143, xc_143)]),
  (149, [(144, xc_144), (145, xc_145), (146, xc_146), (147, xc_147), (148, xc_148)])]
def xfetch (m pc : Nat) : Option xEn := match xf2 xcode m with
  | some t => xf2 t pc
  | none => none
end
section
/-- links of fields: place, class, entry, class of the field, its number -/
def xkf : List (Nat × Nat × Nat × Nat × Nat) := [(83, 0, 11, 0, 0), (96, 1, 9, 1, 0), (97, 1, 15, 1, 1), (98, 1, 18, 1, 2), (116, 2, 11, 2, 0), (117, 2, 20, 2, 1), (118, 2, 24, 2, 2), (72, 2, 28, 5, 1), (75, 2, 32, 5, 2), (206, 3, 9, 3, 0), (209, 3, 20, 3, 2), (208, 3, 24, 3, 1), (69, 3, 46, 5, 0), (132, 4, 9, 4, 0), (68, 5, 9, 5, 0), (71, 5, 15, 5, 1), (74, 5, 19, 5, 2), (136, 6, 10, 6, 0), (137, 6, 16, 6, 1), (138, 6, 25, 6, 2), (139, 6, 29, 6, 3), (140, 6, 32, 6, 4), (141, 6, 39, 6, 5), (142, 6, 43, 6, 6), (143, 6, 49, 6, 7), (144, 6, 53, 6, 8), (145, 6, 56, 6, 9), (146, 6, 60, 6, 10), (147, 6, 67, 6, 11), (148, 6, 71, 6, 12), (70, 6, 145, 5, 0), (73, 6, 156, 5, 1), (207, 6, 162, 3, 0), (545, 7, 7, 7, 0), (546, 7, 13, 7, 1), (547, 7, 16, 7, 2), (548, 7, 19, 7, 3), (549, 7, 23, 7, 4), (550, 7, 27, 7, 5), (551, 7, 30, 7, 6), (552, 7, 34, 7, 7), (556, 7, 37, 7, 11), (557, 7, 40, 7, 12), (559, 7, 44, 7, 14), (560, 7, 47, 7, 15), (561, 7, 50, 7, 16), (562, 7, 53, 7, 17), (568, 7, 56, 7, 23), (569, 7, 59, 7, 24), (571, 7, 62, 7, 26), (572, 7, 65, 7, 27), (573, 7, 68, 7, 28), (574, 7, 71, 7, 29), (575, 7, 74, 7, 30), (576, 7, 77, 7, 31), (577, 7, 80, 7, 32), (578, 7, 83, 7, 33), (564, 7, 102, 7, 19), (565, 7, 106, 7, 20), (558, 7, 145, 7, 13), (566, 7, 175, 7, 21), (567, 7, 182, 7, 22), (555, 7, 189, 7, 10), (553, 7, 213, 7, 8), (554, 7, 216, 7, 9), (570, 7, 251, 7, 25), (563, 7, 259, 7, 18)]
theorem xkf_ok : ∀ q ∈ xkf, lw_tbl[q.1]? = some (.fieldLink (xcs q.2.1) q.2.2.1 (xTT q.2.2.2.1 q.2.2.2.2).1 (xTT q.2.2.2.1 q.2.2.2.2).2.1 (xTT q.2.2.2.1 q.2.2.2.2).2.2.1) := by decide +kernel
/-- links of methods: place, class, entry, method -/
def xkm : List (Nat × Nat × Nat × Nat) := [(64, 0, 19, 31), (511, 0, 22, 0), (512, 0, 23, 4), (517, 0, 29, 19), (518, 0, 33, 24), (494, 1, 22, 9), (115, 2, 17, 31), (205, 3, 17, 31), (243, 3, 28, 20), (345, 3, 32, 35), (239, 3, 36, 21), (388, 3, 39, 22), (238, 3, 43, 17), (311, 5, 23, 31), (266, 5, 29, 33), (459, 5, 33, 147), (320, 5, 39, 38), (56, 6, 9, 0), (89, 6, 22, 31), (92, 6, 38, 5), (109, 6, 48, 11), (128, 6, 66, 27), (180, 6, 74, 66), (183, 6, 78, 70), (190, 6, 82, 73), (217, 6, 86, 2), (225, 6, 90, 1), (229, 6, 96, 19), (233, 6, 100, 24), (247, 6, 104, 76), (278, 6, 108, 28), (286, 6, 112, 67), (289, 6, 115, 78), (316, 6, 119, 37), (329, 6, 123, 32), (334, 6, 127, 79), (350, 6, 131, 80), (358, 6, 134, 81), (186, 6, 137, 68), (194, 6, 141, 74), (370, 6, 148, 33), (371, 6, 152, 75), (200, 6, 165, 17), (384, 6, 168, 23), (393, 6, 172, 25), (398, 6, 176, 84), (410, 6, 180, 26), (423, 6, 183, 83), (435, 6, 187, 16), (443, 6, 191, 6), (447, 6, 194, 14), (451, 6, 195, 15), (455, 6, 197, 36), (462, 6, 200, 7), (466, 6, 202, 86), (478, 6, 205, 85), (486, 6, 208, 9), (490, 6, 211, 10), (470, 6, 214, 8), (296, 6, 215, 20), (305, 6, 216, 21), (341, 6, 217, 22), (503, 6, 220, 69), (506, 6, 223, 3), (527, 6, 227, 29), (535, 6, 230, 30), (300, 6, 243, 71), (293, 6, 246, 77), (297, 6, 250, 72), (306, 6, 253, 35), (338, 6, 256, 82), (427, 6, 260, 12), (431, 6, 261, 13), (659, 7, 88, 88), (689, 7, 94, 90), (673, 7, 98, 94), (727, 7, 130, 99), (735, 7, 134, 100), (655, 7, 138, 89), (665, 7, 148, 92), (669, 7, 152, 93), (677, 7, 156, 103), (685, 7, 160, 91), (693, 7, 163, 95), (705, 7, 167, 106), (718, 7, 171, 97), (721, 7, 178, 98), (724, 7, 185, 101), (714, 7, 194, 108), (760, 7, 198, 113), (751, 7, 202, 96), (756, 7, 206, 111), (772, 7, 210, 115), (784, 7, 219, 114), (768, 7, 222, 116), (780, 7, 225, 117), (796, 7, 230, 121), (813, 7, 236, 125), (817, 7, 239, 126), (835, 7, 247, 130), (843, 7, 254, 132), (852, 7, 262, 134), (859, 7, 266, 136), (875, 7, 270, 140), (893, 7, 277, 144), (899, 7, 285, 145), (48, 9, 9, 39), (541, 9, 12, 87), (176, 9, 13, 40), (651, 9, 17, 102), (221, 9, 18, 41), (681, 9, 21, 104), (270, 9, 22, 42), (697, 9, 26, 105), (274, 9, 27, 43), (701, 9, 31, 107), (282, 9, 32, 44), (709, 9, 35, 109), (312, 9, 36, 45), (743, 9, 40, 110), (325, 9, 43, 46), (747, 9, 47, 112), (346, 9, 48, 47), (764, 9, 51, 118), (354, 9, 52, 48), (776, 9, 55, 119), (362, 9, 56, 49), (787, 9, 60, 120), (366, 9, 61, 50), (792, 9, 65, 122), (376, 9, 66, 51), (801, 9, 69, 123), (380, 9, 70, 52), (805, 9, 73, 124), (389, 9, 74, 53), (809, 9, 77, 127), (402, 9, 78, 54), (821, 9, 81, 128), (406, 9, 82, 55), (826, 9, 85, 129), (415, 9, 86, 56), (830, 9, 90, 131), (419, 9, 91, 57), (839, 9, 94, 133), (439, 9, 95, 58), (847, 9, 98, 135), (474, 9, 99, 59), (855, 9, 102, 137), (482, 9, 103, 60), (863, 9, 106, 138), (495, 9, 107, 61), (867, 9, 110, 139), (499, 9, 111, 62), (871, 9, 114, 141), (519, 9, 115, 63), (879, 9, 118, 142), (523, 9, 119, 64), (883, 9, 122, 143), (531, 9, 123, 65), (889, 9, 126, 146)]
theorem xkm_ok : ∀ q ∈ xkm, lw_tbl[q.1]? = some (.methodLink (xcs q.2.1) q.2.2.1 (xmi q.2.2.2).2.1) := by decide +kernel
def xko : List (Nat × Nat × Nat) := [(59, 0, 3), (95, 1, 3), (112, 2, 3), (203, 3, 3), (131, 4, 3), (67, 5, 3), (51, 6, 1), (544, 7, 1)]
theorem xko_ok : ∀ q ∈ xko, lw_tbl[q.1]? = some (.methodLink (xcs q.2.1) q.2.2 objectInit) := by decide +kernel
-- nest mates: [(3, 49, 72, 397), (3, 53, 71, 414)]
def xkc : List (Nat × Nat) := [(58, 0), (228, 1), (220, 2), (509, 3), (515, 4), (94, 5), (446, 6), (465, 7), (473, 8), (489, 9), (493, 10), (111, 11), (430, 12), (434, 13), (450, 14), (454, 15), (438, 16), (202, 17), (259, 18), (232, 19), (246, 20), (242, 21), (344, 22), (387, 23), (236, 24), (396, 25), (413, 26), (130, 27), (281, 28), (530, 29), (538, 30), (66, 31), (331, 32), (269, 33), (265, 34), (309, 35), (458, 36), (319, 37), (322, 38), (50, 39), (179, 40), (224, 41), (273, 42), (277, 43), (285, 44), (315, 45), (328, 46), (349, 47), (357, 48), (365, 49), (369, 50), (379, 51), (383, 52), (392, 53), (405, 54), (409, 55), (418, 56), (422, 57), (442, 58), (477, 59), (485, 60), (498, 61), (502, 62), (522, 63), (526, 64), (534, 65), (182, 66), (288, 67), (188, 68), (505, 69), (185, 70), (302, 71), (299, 72), (193, 73), (197, 74), (374, 75), (249, 76), (295, 77), (292, 78), (337, 79), (353, 80), (361, 81), (340, 82), (426, 83), (401, 84), (481, 85), (469, 86), (543, 87), (661, 88), (657, 89), (692, 90), (688, 91), (668, 92), (672, 93), (676, 94), (696, 95), (754, 96), (720, 97), (723, 98), (729, 99), (737, 100), (726, 101), (654, 102), (680, 103), (684, 104), (700, 105), (708, 106), (704, 107), (717, 108), (712, 109), (746, 110), (759, 111), (750, 112), (763, 113), (786, 114), (775, 115), (771, 116), (783, 117), (767, 118), (779, 119), (790, 120), (799, 121), (795, 122), (804, 123), (808, 124), (816, 125), (820, 126), (812, 127), (824, 128), (829, 129), (838, 130), (833, 131), (846, 132), (842, 133), (854, 134), (850, 135), (862, 136), (858, 137), (866, 138), (870, 139), (878, 140), (874, 141), (882, 142), (886, 143), (896, 144), (902, 145), (892, 146), (461, 147)]
def xkc_0 : List (Nat × Nat) := [(58, 0), (228, 1), (220, 2), (509, 3), (515, 4), (94, 5), (446, 6), (465, 7), (473, 8), (489, 9), (493, 10), (111, 11), (430, 12), (434, 13), (450, 14), (454, 15), (438, 16), (202, 17), (259, 18), (232, 19), (246, 20), (242, 21), (344, 22), (387, 23), (236, 24), (396, 25), (413, 26), (130, 27), (281, 28), (530, 29), (538, 30), (66, 31), (331, 32), (269, 33), (265, 34), (309, 35), (458, 36), (319, 37), (322, 38), (50, 39)]
set_option maxRecDepth 100000 in
theorem xkc_ok_0 : xkc_0.map (fun q => lw_tbl[q.1]?) = xkc_0.map (fun q => some (.code (xmi q.2).2.1 (xmi q.2).2.2.1 (xml q.2) (xmi q.2).2.2.2)) := rfl
def xkc_1 : List (Nat × Nat) := [(179, 40), (224, 41), (273, 42), (277, 43), (285, 44), (315, 45), (328, 46), (349, 47), (357, 48), (365, 49), (369, 50), (379, 51), (383, 52), (392, 53), (405, 54), (409, 55), (418, 56), (422, 57), (442, 58), (477, 59), (485, 60), (498, 61), (502, 62), (522, 63), (526, 64), (534, 65), (182, 66), (288, 67), (188, 68), (505, 69), (185, 70), (302, 71), (299, 72), (193, 73), (197, 74), (374, 75), (249, 76), (295, 77), (292, 78), (337, 79)]
set_option maxRecDepth 100000 in
theorem xkc_ok_1 : xkc_1.map (fun q => lw_tbl[q.1]?) = xkc_1.map (fun q => some (.code (xmi q.2).2.1 (xmi q.2).2.2.1 (xml q.2) (xmi q.2).2.2.2)) := rfl
def xkc_2 : List (Nat × Nat) := [(353, 80), (361, 81), (340, 82), (426, 83), (401, 84), (481, 85), (469, 86), (543, 87), (661, 88), (657, 89), (692, 90), (688, 91), (668, 92), (672, 93), (676, 94), (696, 95), (754, 96), (720, 97), (723, 98), (729, 99), (737, 100), (726, 101), (654, 102), (680, 103), (684, 104), (700, 105), (708, 106), (704, 107), (717, 108), (712, 109), (746, 110), (759, 111), (750, 112), (763, 113), (786, 114), (775, 115), (771, 116), (783, 117), (767, 118), (779, 119)]
set_option maxRecDepth 100000 in
theorem xkc_ok_2 : xkc_2.map (fun q => lw_tbl[q.1]?) = xkc_2.map (fun q => some (.code (xmi q.2).2.1 (xmi q.2).2.2.1 (xml q.2) (xmi q.2).2.2.2)) := rfl
def xkc_3 : List (Nat × Nat) := [(790, 120), (799, 121), (795, 122), (804, 123), (808, 124), (816, 125), (820, 126), (812, 127), (824, 128), (829, 129), (838, 130), (833, 131), (846, 132), (842, 133), (854, 134), (850, 135), (862, 136), (858, 137), (866, 138), (870, 139), (878, 140), (874, 141), (882, 142), (886, 143), (896, 144), (902, 145), (892, 146), (461, 147)]
set_option maxRecDepth 100000 in
theorem xkc_ok_3 : xkc_3.map (fun q => lw_tbl[q.1]?) = xkc_3.map (fun q => some (.code (xmi q.2).2.1 (xmi q.2).2.2.1 (xml q.2) (xmi q.2).2.2.2)) := rfl
def xki : List (Nat × Nat) := [(57, 0), (226, 1), (218, 2), (507, 3), (514, 4), (93, 5), (444, 6), (463, 7), (471, 8), (487, 9), (491, 10), (110, 11), (428, 12), (432, 13), (448, 14), (452, 15), (436, 16), (201, 17), (257, 18), (230, 19), (244, 20), (240, 21), (342, 22), (385, 23), (234, 24), (394, 25), (411, 26), (129, 27), (279, 28), (528, 29), (536, 30), (65, 31), (267, 33), (263, 34), (307, 35), (456, 36), (317, 37), (49, 39), (177, 40), (222, 41), (271, 42), (275, 43), (283, 44), (313, 45), (326, 46), (347, 47), (355, 48), (363, 49), (367, 50), (377, 51), (381, 52), (390, 53), (403, 54), (407, 55), (416, 56), (420, 57), (440, 58), (475, 59), (483, 60), (496, 61), (500, 62), (520, 63), (524, 64), (532, 65), (192, 73), (196, 74), (373, 75), (291, 78), (336, 79), (352, 80), (360, 81), (425, 83), (400, 84), (480, 85), (468, 86), (542, 87), (691, 90), (687, 91), (667, 92), (671, 93), (675, 94), (695, 95), (753, 96), (652, 102), (679, 103), (682, 104), (698, 105), (707, 106), (702, 107), (716, 108), (710, 109), (744, 110), (758, 111), (748, 112), (762, 113), (774, 115), (770, 116), (782, 117), (765, 118), (777, 119), (788, 120), (798, 121), (793, 122), (802, 123), (806, 124), (815, 125), (819, 126), (810, 127), (822, 128), (827, 129), (837, 130), (831, 131), (845, 132), (840, 133), (848, 135), (861, 136), (856, 137), (864, 138), (868, 139), (877, 140), (872, 141), (880, 142), (884, 143), (895, 144), (901, 145), (890, 146)]
theorem xki_ok : ∀ q ∈ xki, lw_tbl[q.1]? = some (.instanceMethod (xmi q.2).2.1) := by decide +kernel
def xks : List (Nat × Nat) := [(330, 32), (321, 38), (181, 66), (287, 67), (187, 68), (504, 69), (184, 70), (301, 71), (298, 72), (248, 76), (294, 77), (339, 82), (660, 88), (656, 89), (719, 97), (722, 98), (728, 99), (736, 100), (725, 101), (785, 114), (853, 134), (460, 147)]
theorem xks_ok : ∀ q ∈ xks, lw_tbl[q.1]? = some (.static (xmi q.2).2.1) := by decide +kernel
def xkv : List (Nat × Nat) := [(227, 1), (219, 2), (508, 3), (11, 4), (445, 6), (464, 7), (472, 8), (488, 9), (492, 10), (429, 12), (433, 13), (449, 14), (453, 15), (437, 16), (231, 19), (245, 20), (241, 21), (343, 22), (386, 23), (235, 24), (395, 25), (412, 26), (280, 28), (529, 29), (537, 30), (268, 33), (308, 35), (457, 36), (318, 37), (178, 40), (223, 41), (272, 42), (276, 43), (284, 44), (314, 45), (327, 46), (348, 47), (356, 48), (364, 49), (368, 50), (378, 51), (382, 52), (391, 53), (404, 54), (408, 55), (417, 56), (421, 57), (441, 58), (476, 59), (484, 60), (497, 61), (501, 62), (521, 63), (525, 64), (533, 65), (0, 73), (1, 74), (6, 75), (2, 78), (3, 79), (4, 80), (5, 81), (8, 83), (7, 84), (10, 85), (9, 86), (17, 90), (16, 91), (12, 92), (13, 93), (14, 94), (18, 95), (21, 96), (653, 102), (15, 103), (683, 104), (699, 105), (19, 106), (703, 107), (20, 108), (711, 109), (745, 110), (22, 111), (749, 112), (23, 113), (25, 115), (24, 116), (26, 117), (766, 118), (778, 119), (789, 120), (27, 121), (794, 122), (803, 123), (807, 124), (28, 125), (29, 126), (811, 127), (823, 128), (828, 129), (30, 130), (832, 131), (31, 132), (841, 133), (849, 135), (32, 136), (857, 137), (865, 138), (869, 139), (33, 140), (873, 141), (881, 142), (885, 143), (34, 144), (35, 145), (891, 146)]
theorem xkv_ok : ∀ q ∈ xkv, lw_tbl[q.1]? = some (.selects (xcs (xmi q.2).1) (xmi q.2).2.1 (xmi q.2).2.1) := by decide +kernel
def xkn : List (Nat × Nat) := [(38, 0), (40, 1), (41, 2), (44, 3), (42, 4), (39, 5), (37, 6), (43, 7), (45, 8), (36, 9)]
theorem xkn_ok : ∀ q ∈ xkn, lw_tbl[q.1]? = some (.initialized (xcs q.2)) := by decide +kernel
def xkl : List (Nat × Nat × Nat × Nat) := [(510, 0, 12, 0), (62, 0, 17, 5), (113, 2, 9, 5), (237, 3, 10, 3), (204, 3, 15, 5), (310, 5, 10, 5), (54, 6, 7, 0), (88, 6, 20, 5), (90, 6, 36, 1), (107, 6, 46, 2), (126, 6, 64, 4), (198, 6, 94, 3), (46, 9, 7, 6), (539, 9, 10, 7)]
theorem xkl_ok : ∀ q ∈ xkl, lw_tbl[q.1]? = some (.classLink (xcs q.2.1) q.2.2.1 (xcs q.2.2.2)) := by decide +kernel
def xkt : List (Nat × Nat) := [(55, 0), (91, 1), (108, 2), (199, 3), (127, 4), (63, 5), (47, 6), (540, 7)]
theorem xkt_ok : ∀ q ∈ xkt, lw_tbl[q.1]? = some (.instantiable (xcs q.2) (xdf q.2).length) := by decide +kernel
def xqn (k : Nat) : String := match k with
  | 4 => "CoreBook$Holding"
  | 5 => "CoreBook$Thing"
  | _ => "CoreBook$Page"
def xkq : List (Nat × Nat × Nat × Nat) := [(60, 0, 9, 4), (113, 2, 9, 5), (204, 3, 15, 5), (54, 6, 7, 6)]
theorem xkq_ok : ∀ q ∈ xkq, lw_tbl[q.1]? = some (.classLink (xcs q.2.1) q.2.2.1 (xqn q.2.2.2)) := by decide +kernel
def xka : List (Nat × Nat × Nat) := [(516, 0, 27), (198, 6, 94)]
theorem xka_ok : ∀ q ∈ xka, lw_tbl[q.1]? = some (.classLink (xcs q.2.1) q.2.2 (xcs 3)) := by decide +kernel
def xkI : List (Nat × Nat × Nat × Int32) := [(733, 7, 118, 8388608), (734, 7, 119, -2147483648)]
theorem xkI_ok : ∀ q ∈ xkI, lw_tbl[q.1]? = some (.constant (xcs q.2.1) q.2.2.1 q.2.2.2) := by decide +kernel
def xkJ : List (Nat × Nat × Nat × Int64) := [(375, 6, 160, -2), (189, 6, 238, 99), (324, 5, 45, -1), (903, 9, 41, 4294967295), (658, 7, 86, 9), (662, 7, 92, 15), (738, 7, 120, 1075), (741, 7, 126, 4503599627370496), (742, 7, 128, -9223372036854775808), (663, 7, 141, 24), (664, 7, 143, 99), (713, 7, 192, 7), (791, 7, 228, 11), (800, 7, 234, -2), (825, 7, 243, 12), (834, 7, 245, 8), (851, 7, 257, 2), (887, 7, 273, 18), (888, 7, 275, 5), (897, 7, 281, 10), (898, 7, 283, 19)]
theorem xkJ_ok : ∀ q ∈ xkJ, lw_tbl[q.1]? = some (.constantLong (xcs q.2.1) q.2.2.1 q.2.2.2) := by decide +kernel
def xkF : List (Nat × Nat × Nat × UInt32) := [(332, 5, 26, 1090519040)]
theorem xkF_ok : ∀ q ∈ xkF, lw_tbl[q.1]? = some (.constantFloat (xcs q.2.1) q.2.2.1 q.2.2.2) := by decide +kernel
def xkD : List (Nat × Nat × Nat × UInt64) := [(333, 5, 27, 4620693217682128896), (323, 5, 43, 4611686018427387904), (755, 7, 110, 4620693217682128896), (730, 7, 112, 4715268809856909312), (731, 7, 114, 4611686018427387904), (732, 7, 116, 4710765210229538816), (739, 7, 122, 4845873199050653696), (740, 7, 124, 4841369599423283200)]
theorem xkD_ok : ∀ q ∈ xkD, lw_tbl[q.1]? = some (.constantDouble (xcs q.2.1) q.2.2.1 q.2.2.2) := by decide +kernel
def xin4 (l : List (Nat × Nat × Nat × Nat × Nat)) (a b c d : Nat) : Bool := l.any fun q => q.2.1 == a && q.2.2.1 == b && q.2.2.2.1 == c && q.2.2.2.2 == d
def xin3 (l : List (Nat × Nat × Nat × Nat)) (a b c : Nat) : Bool := l.any fun q => q.2.1 == a && q.2.2.1 == b && q.2.2.2 == c
def xin2 (l : List (Nat × Nat × Nat)) (a b : Nat) : Bool := l.any fun q => q.2.1 == a && q.2.2 == b
def xin1 (l : List (Nat × Nat)) (a : Nat) : Bool := l.any fun q => q.2 == a
def xinK {β : Type} [BEq β] (l : List (Nat × Nat × Nat × β)) (a b : Nat) (v : β) : Bool := l.any fun q => q.2.1 == a && q.2.2.1 == b && q.2.2.2 == v
/-- does a value of this kind go into a field of this type -/
def xtok (ty : FieldType) (cv : Option xV) : Bool := match cv with
  | some (.inl _) => ty == .int
  | some (.inr (.inl _)) => ty == .long
  | some (.inr (.inr (.inr (.inl _)))) => ty == .double
  | some (.inr (.inr (.inr (.inr _)))) => ty.isReference
  | _ => false
def xnar (m : Nat) : Nat := ((parseMethodDescriptor (xmi m).2.1.desc).map fun d => d.parameters.length).getD 99
/-- a method that is called: its code, and that it is of the class it names -/
def xcok (m a : Nat) : Bool := xin1 xkc a && Nat.blt (xrk a) (xrk m) && Nat.ble (xml a) 19 && xin1 xkn (xmi a).1 && ((xmi a).2.1.cls == xcs (xmi a).1)
def xchk (m pc : Nat) (e : xEn) : Bool := match e with
  | (i, len, a, b, cv, mm) => decide (decode (xmi m).2.2.1 pc = .ok (i, len)) && (mm == [] || mm.length == xml m) && (match i with
    | .iconst n => len == 1 && cv == some (xI (Int32.ofInt n))
    | .bipush n => len == 2 && cv == some (xI (Int8.ofInt n).toInt32)
    | .sipush n => len == 3 && cv == some (xI (Int16.ofInt n).toInt32)
    | .lconst n => len == 1 && cv == some (xJ (Int64.ofNat n))
    | .fconst n => len == 1 && n == 0 && cv == some (xF FP.fconst0)
    | .dconst n => len == 1 && cv == some (xD (if n = 0 then FP.dconst0 else FP.dconst1))
    | .ldc k => len == 2 && (match cv with
      | some (.inl v) => xinK xkI (xmi m).1 k v
      | some (.inr (.inr (.inl v))) => xinK xkF (xmi m).1 k v
      | _ => false)
    | .ldc2_w k => len == 3 && (match cv with
      | some (.inr (.inl v)) => xinK xkJ (xmi m).1 k v
      | some (.inr (.inr (.inr (.inl v)))) => xinK xkD (xmi m).1 k v
      | _ => false)
    | .aconst_null => len == 1
    | .iload k | .lload k | .fload k | .dload k | .aload k => len == 2 && a == k
    | .iload_n k | .lload_n k | .dload_n k | .aload_n k => len == 1 && a == k.val
    | .istore k | .fstore k | .astore k => len == 2 && a == k && Nat.blt a (xml m)
    | .istore_n k | .astore_n k => len == 1 && a == k.val && Nat.blt a (xml m)
    | .lstore k | .dstore k => len == 2 && a == k && Nat.blt (a + 1) (xml m)
    | .lstore_n k | .dstore_n k => len == 1 && a == k.val && Nat.blt (a + 1) (xml m)
    | .iinc k n => len == 3 && a == k && Nat.blt a (xml m) && cv == some (xI (Int32.ofInt n))
    | .ifCond _ o | .if_icmp _ o | .if_acmp _ o | .ifnonnull o | .goto o => len == 3 && decide ((pc : Int) + o = (a : Int))
    | .tableswitch d lo hi os => decide ((pc : Int) + d = (a : Int)) && decide (0 ≤ lo) && decide (hi < 1000) && decide (lo + os.size = hi + 1) && os.toList.all fun o => decide (0 ≤ (pc : Int) + o)
    | .ireturn => len == 1 && (xmi m).2.2.2 == some (if b = 0 then .int else .boolean)
    | .lreturn => len == 1 && (xmi m).2.2.2 == some .long
    | .dreturn => len == 1 && (xmi m).2.2.2 == some .double
    | .areturn => len == 1 && (match (xmi m).2.2.2 with
      | some (.object _) => true
      | _ => false)
    | .return_ => len == 1 && (xmi m).2.2.2 == none
    | .getfield k => len == 3 && xin4 xkf (xmi m).1 k a b && Nat.blt a 8 && Nat.blt b (xdf a).length
    | .putfield k => len == 3 && xin4 xkf (xmi m).1 k a b && Nat.blt a 8 && Nat.blt b (xdf a).length && xtok (xYY a b) cv && (!(xTT a b).2.2.2 || ((xmi m).2.1.name == "<init>" && (xTT a b).1 == xcs (xmi m).1))
    | .getstatic k => len == 3 && (xmi m).1 == 6 && k == 240
    | .new k => len == 3 && xin3 xkl (xmi m).1 k a && Nat.blt a 8 && b == (xdf a).length
    | .newarray t => len == 2 && (match t with
      | .int => a == 0
      | .long => a == 1
      | .double => a == 2
      | .boolean => a == 3
      | _ => false)
    | .anewarray k => len == 3 && xin3 xkq (xmi m).1 k a && (a == 4 || a == 5 || a == 6)
    | .instanceof k => len == 3 && xin2 xka (xmi m).1 k && a == 3 && b == 5
    | .checkcast k => len == 3 && xin2 xka (xmi m).1 k && a == 3
    | .invokevirtual k => len == 3 && xin3 xkm (xmi m).1 k a && xcok m a && xin1 xki a && xin1 xkv a && b == xnar a + 1 + 16 * (xmi a).1 && Nat.blt (xnar a + 1) 16
    | .invokespecial k => len == 3 && (bif a == 1000 then xin2 xko (xmi m).1 k && Nat.blt 0 (xrk m) else xin3 xkm (xmi m).1 k a && xcok m a && xin1 xki a && b == xnar a + 1 && (xmi a).2.1.name == "<init>" && (xmi a).2.2.2 == none)
    | .invokestatic k => len == 3 && xcok m a && xin1 xks a && b == xnar a && (xin3 xkm (xmi m).1 k a || ((xmi m).1 == 3 && k == 49 && a == 72) || ((xmi m).1 == 3 && k == 53 && a == 71))
    | .invokeinterface k n => len == 5 && (xmi m).1 == 6 && k == 233 && a == 18 && b == 34 && xcok m a && xin1 xki a && xcok m b && xin1 xki b
    | _ => len == 1)
def xall (m : Nat) (t : List (Nat × List (Nat × xEn))) : Bool := t.all fun q => q.2.all fun e => xchk m e.1 e.2
end
section
theorem xok_0 : xall 0 xc_0 = true := by decide +kernel
theorem xok_1 : xall 1 xc_1 = true := by decide +kernel
theorem xok_2 : xall 2 xc_2 = true := by decide +kernel
theorem xok_3 : xall 3 xc_3 = true := by decide +kernel
theorem xok_4 : xall 4 xc_4 = true := by decide +kernel
theorem xok_5 : xall 5 xc_5 = true := by decide +kernel
theorem xok_6 : xall 6 xc_6 = true := by decide +kernel
theorem xok_7 : xall 7 xc_7 = true := by decide +kernel
theorem xok_8 : xall 8 xc_8 = true := by decide +kernel
theorem xok_9 : xall 9 xc_9 = true := by decide +kernel
theorem xok_10 : xall 10 xc_10 = true := by decide +kernel
theorem xok_11 : xall 11 xc_11 = true := by decide +kernel
theorem xok_12 : xall 12 xc_12 = true := by decide +kernel
theorem xok_13 : xall 13 xc_13 = true := by decide +kernel
theorem xok_14 : xall 14 xc_14 = true := by decide +kernel
theorem xok_15 : xall 15 xc_15 = true := by decide +kernel
theorem xok_16 : xall 16 xc_16 = true := by decide +kernel
theorem xok_17 : xall 17 xc_17 = true := by decide +kernel
theorem xok_18 : xall 18 xc_18 = true := by decide +kernel
theorem xok_19 : xall 19 xc_19 = true := by decide +kernel
theorem xok_20 : xall 20 xc_20 = true := by decide +kernel
theorem xok_21 : xall 21 xc_21 = true := by decide +kernel
theorem xok_22 : xall 22 xc_22 = true := by decide +kernel
theorem xok_23 : xall 23 xc_23 = true := by decide +kernel
theorem xok_24 : xall 24 xc_24 = true := by decide +kernel
theorem xok_25 : xall 25 xc_25 = true := by decide +kernel
theorem xok_26 : xall 26 xc_26 = true := by decide +kernel
theorem xok_27 : xall 27 xc_27 = true := by decide +kernel
theorem xok_28 : xall 28 xc_28 = true := by decide +kernel
theorem xok_29 : xall 29 xc_29 = true := by decide +kernel
theorem xok_30 : xall 30 xc_30 = true := by decide +kernel
theorem xok_31 : xall 31 xc_31 = true := by decide +kernel
theorem xok_32 : xall 32 xc_32 = true := by decide +kernel
theorem xok_33 : xall 33 xc_33 = true := by decide +kernel
theorem xok_34 : xall 34 xc_34 = true := by decide +kernel
theorem xok_35 : xall 35 xc_35 = true := by decide +kernel
theorem xok_36 : xall 36 xc_36 = true := by decide +kernel
theorem xok_37 : xall 37 xc_37 = true := by decide +kernel
theorem xok_38 : xall 38 xc_38 = true := by decide +kernel
theorem xok_39 : xall 39 xc_39 = true := by decide +kernel
theorem xok_40 : xall 40 xc_40 = true := by decide +kernel
end
section
theorem xok_41 : xall 41 xc_41 = true := by decide +kernel
theorem xok_42 : xall 42 xc_42 = true := by decide +kernel
theorem xok_43 : xall 43 xc_43 = true := by decide +kernel
theorem xok_44 : xall 44 xc_44 = true := by decide +kernel
theorem xok_45 : xall 45 xc_45 = true := by decide +kernel
theorem xok_46 : xall 46 xc_46 = true := by decide +kernel
theorem xok_47 : xall 47 xc_47 = true := by decide +kernel
theorem xok_48 : xall 48 xc_48 = true := by decide +kernel
theorem xok_49 : xall 49 xc_49 = true := by decide +kernel
theorem xok_50 : xall 50 xc_50 = true := by decide +kernel
theorem xok_51 : xall 51 xc_51 = true := by decide +kernel
theorem xok_52 : xall 52 xc_52 = true := by decide +kernel
theorem xok_53 : xall 53 xc_53 = true := by decide +kernel
theorem xok_54 : xall 54 xc_54 = true := by decide +kernel
theorem xok_55 : xall 55 xc_55 = true := by decide +kernel
theorem xok_56 : xall 56 xc_56 = true := by decide +kernel
theorem xok_57 : xall 57 xc_57 = true := by decide +kernel
theorem xok_58 : xall 58 xc_58 = true := by decide +kernel
theorem xok_59 : xall 59 xc_59 = true := by decide +kernel
theorem xok_60 : xall 60 xc_60 = true := by decide +kernel
theorem xok_61 : xall 61 xc_61 = true := by decide +kernel
theorem xok_62 : xall 62 xc_62 = true := by decide +kernel
theorem xok_63 : xall 63 xc_63 = true := by decide +kernel
end
section
theorem xok_64 : xall 64 xc_64 = true := by decide +kernel
theorem xok_65 : xall 65 xc_65 = true := by decide +kernel
theorem xok_66 : xall 66 xc_66 = true := by decide +kernel
theorem xok_67 : xall 67 xc_67 = true := by decide +kernel
theorem xok_68 : xall 68 xc_68 = true := by decide +kernel
theorem xok_69 : xall 69 xc_69 = true := by decide +kernel
theorem xok_70 : xall 70 xc_70 = true := by decide +kernel
theorem xok_71 : xall 71 xc_71 = true := by decide +kernel
theorem xok_72 : xall 72 xc_72 = true := by decide +kernel
theorem xok_73 : xall 73 xc_73 = true := by decide +kernel
theorem xok_74 : xall 74 xc_74 = true := by decide +kernel
theorem xok_75 : xall 75 xc_75 = true := by decide +kernel
theorem xok_76 : xall 76 xc_76 = true := by decide +kernel
theorem xok_77 : xall 77 xc_77 = true := by decide +kernel
theorem xok_78 : xall 78 xc_78 = true := by decide +kernel
theorem xok_79 : xall 79 xc_79 = true := by decide +kernel
theorem xok_80 : xall 80 xc_80 = true := by decide +kernel
theorem xok_81 : xall 81 xc_81 = true := by decide +kernel
theorem xok_82 : xall 82 xc_82 = true := by decide +kernel
theorem xok_83 : xall 83 xc_83 = true := by decide +kernel
theorem xok_84 : xall 84 xc_84 = true := by decide +kernel
theorem xok_85 : xall 85 xc_85 = true := by decide +kernel
theorem xok_86 : xall 86 xc_86 = true := by decide +kernel
theorem xok_87 : xall 87 xc_87 = true := by decide +kernel
theorem xok_88 : xall 88 xc_88 = true := by decide +kernel
theorem xok_89 : xall 89 xc_89 = true := by decide +kernel
theorem xok_90 : xall 90 xc_90 = true := by decide +kernel
theorem xok_91 : xall 91 xc_91 = true := by decide +kernel
theorem xok_92 : xall 92 xc_92 = true := by decide +kernel
theorem xok_93 : xall 93 xc_93 = true := by decide +kernel
theorem xok_94 : xall 94 xc_94 = true := by decide +kernel
theorem xok_95 : xall 95 xc_95 = true := by decide +kernel
theorem xok_96 : xall 96 xc_96 = true := by decide +kernel
theorem xok_97 : xall 97 xc_97 = true := by decide +kernel
theorem xok_98 : xall 98 xc_98 = true := by decide +kernel
theorem xok_99 : xall 99 xc_99 = true := by decide +kernel
end
section
theorem xok_100 : xall 100 xc_100 = true := by decide +kernel
theorem xok_101 : xall 101 xc_101 = true := by decide +kernel
theorem xok_102 : xall 102 xc_102 = true := by decide +kernel
theorem xok_103 : xall 103 xc_103 = true := by decide +kernel
theorem xok_104 : xall 104 xc_104 = true := by decide +kernel
theorem xok_105 : xall 105 xc_105 = true := by decide +kernel
theorem xok_106 : xall 106 xc_106 = true := by decide +kernel
theorem xok_107 : xall 107 xc_107 = true := by decide +kernel
theorem xok_108 : xall 108 xc_108 = true := by decide +kernel
theorem xok_109 : xall 109 xc_109 = true := by decide +kernel
theorem xok_110 : xall 110 xc_110 = true := by decide +kernel
theorem xok_111 : xall 111 xc_111 = true := by decide +kernel
theorem xok_112 : xall 112 xc_112 = true := by decide +kernel
theorem xok_113 : xall 113 xc_113 = true := by decide +kernel
theorem xok_114 : xall 114 xc_114 = true := by decide +kernel
theorem xok_115 : xall 115 xc_115 = true := by decide +kernel
theorem xok_116 : xall 116 xc_116 = true := by decide +kernel
theorem xok_117 : xall 117 xc_117 = true := by decide +kernel
theorem xok_118 : xall 118 xc_118 = true := by decide +kernel
theorem xok_119 : xall 119 xc_119 = true := by decide +kernel
theorem xok_120 : xall 120 xc_120 = true := by decide +kernel
theorem xok_121 : xall 121 xc_121 = true := by decide +kernel
theorem xok_122 : xall 122 xc_122 = true := by decide +kernel
end
section
theorem xok_123 : xall 123 xc_123 = true := by decide +kernel
theorem xok_124 : xall 124 xc_124 = true := by decide +kernel
theorem xok_125 : xall 125 xc_125 = true := by decide +kernel
theorem xok_126 : xall 126 xc_126 = true := by decide +kernel
theorem xok_127 : xall 127 xc_127 = true := by decide +kernel
theorem xok_128 : xall 128 xc_128 = true := by decide +kernel
theorem xok_129 : xall 129 xc_129 = true := by decide +kernel
theorem xok_130 : xall 130 xc_130 = true := by decide +kernel
theorem xok_131 : xall 131 xc_131 = true := by decide +kernel
theorem xok_132 : xall 132 xc_132 = true := by decide +kernel
theorem xok_133 : xall 133 xc_133 = true := by decide +kernel
theorem xok_134 : xall 134 xc_134 = true := by decide +kernel
theorem xok_135 : xall 135 xc_135 = true := by decide +kernel
theorem xok_136 : xall 136 xc_136 = true := by decide +kernel
theorem xok_137 : xall 137 xc_137 = true := by decide +kernel
end
section
theorem xok_138 : xall 138 xc_138 = true := by decide +kernel
theorem xok_139 : xall 139 xc_139 = true := by decide +kernel
theorem xok_140 : xall 140 xc_140 = true := by decide +kernel
theorem xok_141 : xall 141 xc_141 = true := by decide +kernel
theorem xok_142 : xall 142 xc_142 = true := by decide +kernel
theorem xok_143 : xall 143 xc_143 = true := by decide +kernel
theorem xok_144 : xall 144 xc_144 = true := by decide +kernel
theorem xok_145 : xall 145 xc_145 = true := by decide +kernel
theorem xok_146 : xall 146 xc_146 = true := by decide +kernel
theorem xok_147 : xall 147 xc_147 = true := by decide +kernel
end
section
theorem xok_148_0 : xc_148_0.all (fun e => xchk 148 e.1 e.2) = true := by decide +kernel
theorem xok_148_1 : xc_148_1.all (fun e => xchk 148 e.1 e.2) = true := by decide +kernel
theorem xok_148_2 : xc_148_2.all (fun e => xchk 148 e.1 e.2) = true := by decide +kernel
theorem xok_148_3 : xc_148_3.all (fun e => xchk 148 e.1 e.2) = true := by decide +kernel
theorem xok_148_4 : xc_148_4.all (fun e => xchk 148 e.1 e.2) = true := by decide +kernel
end
section
theorem xok_148_5 : xc_148_5.all (fun e => xchk 148 e.1 e.2) = true := by decide +kernel
theorem xok_148_6 : xc_148_6.all (fun e => xchk 148 e.1 e.2) = true := by decide +kernel
theorem xok_148_7 : xc_148_7.all (fun e => xchk 148 e.1 e.2) = true := by decide +kernel
theorem xok_148_8 : xc_148_8.all (fun e => xchk 148 e.1 e.2) = true := by decide +kernel
theorem xok_148_9 : xc_148_9.all (fun e => xchk 148 e.1 e.2) = true := by decide +kernel
end
section
theorem xok_148_10 : xc_148_10.all (fun e => xchk 148 e.1 e.2) = true := by decide +kernel
theorem xok_148_11 : xc_148_11.all (fun e => xchk 148 e.1 e.2) = true := by decide +kernel
theorem xok_148_12 : xc_148_12.all (fun e => xchk 148 e.1 e.2) = true := by decide +kernel
theorem xok_148_13 : xc_148_13.all (fun e => xchk 148 e.1 e.2) = true := by decide +kernel
theorem xok_148_14 : xc_148_14.all (fun e => xchk 148 e.1 e.2) = true := by decide +kernel
end
section
theorem xok_148_15 : xc_148_15.all (fun e => xchk 148 e.1 e.2) = true := by decide +kernel
theorem xok_148_16 : xc_148_16.all (fun e => xchk 148 e.1 e.2) = true := by decide +kernel
theorem xok_148_17 : xc_148_17.all (fun e => xchk 148 e.1 e.2) = true := by decide +kernel
theorem xok_148_18 : xc_148_18.all (fun e => xchk 148 e.1 e.2) = true := by decide +kernel
theorem xok_148_19 : xc_148_19.all (fun e => xchk 148 e.1 e.2) = true := by decide +kernel
end
section
theorem xok_148_20 : xc_148_20.all (fun e => xchk 148 e.1 e.2) = true := by decide +kernel
theorem xok_148_21 : xc_148_21.all (fun e => xchk 148 e.1 e.2) = true := by decide +kernel
theorem xok_148_22 : xc_148_22.all (fun e => xchk 148 e.1 e.2) = true := by decide +kernel
theorem xok_148_23 : xc_148_23.all (fun e => xchk 148 e.1 e.2) = true := by decide +kernel
theorem xok_148_24 : xc_148_24.all (fun e => xchk 148 e.1 e.2) = true := by decide +kernel
end
section
theorem xok_148_25 : xc_148_25.all (fun e => xchk 148 e.1 e.2) = true := by decide +kernel
theorem xok_148_26 : xc_148_26.all (fun e => xchk 148 e.1 e.2) = true := by decide +kernel
theorem xok_148_27 : xc_148_27.all (fun e => xchk 148 e.1 e.2) = true := by decide +kernel
theorem xok_148_28 : xc_148_28.all (fun e => xchk 148 e.1 e.2) = true := by decide +kernel
theorem xok_148_29 : xc_148_29.all (fun e => xchk 148 e.1 e.2) = true := by decide +kernel
end
section
theorem xok_148 : xall 148 xc_148 = true := List.all_eq_true.mpr (List.forall_mem_cons.mpr ⟨xok_148_0, List.forall_mem_cons.mpr ⟨xok_148_1, List.forall_mem_cons.mpr ⟨xok_148_2, List.forall_mem_cons.mpr ⟨xok_148_3, List.forall_mem_cons.mpr ⟨xok_148_4, List.forall_mem_cons.mpr ⟨xok_148_5, List.forall_mem_cons.mpr ⟨xok_148_6, List.forall_mem_cons.mpr ⟨xok_148_7, List.forall_mem_cons.mpr ⟨xok_148_8, List.forall_mem_cons.mpr ⟨xok_148_9, List.forall_mem_cons.mpr ⟨xok_148_10, List.forall_mem_cons.mpr ⟨xok_148_11, List.forall_mem_cons.mpr ⟨xok_148_12, List.forall_mem_cons.mpr ⟨xok_148_13, List.forall_mem_cons.mpr ⟨xok_148_14, List.forall_mem_cons.mpr ⟨xok_148_15, List.forall_mem_cons.mpr ⟨xok_148_16, List.forall_mem_cons.mpr ⟨xok_148_17, List.forall_mem_cons.mpr ⟨xok_148_18, List.forall_mem_cons.mpr ⟨xok_148_19, List.forall_mem_cons.mpr ⟨xok_148_20, List.forall_mem_cons.mpr ⟨xok_148_21, List.forall_mem_cons.mpr ⟨xok_148_22, List.forall_mem_cons.mpr ⟨xok_148_23, List.forall_mem_cons.mpr ⟨xok_148_24, List.forall_mem_cons.mpr ⟨xok_148_25, List.forall_mem_cons.mpr ⟨xok_148_26, List.forall_mem_cons.mpr ⟨xok_148_27, List.forall_mem_cons.mpr ⟨xok_148_28, List.forall_mem_cons.mpr ⟨xok_148_29, fun _ h => absurd h List.not_mem_nil⟩⟩⟩⟩⟩⟩⟩⟩⟩⟩⟩⟩⟩⟩⟩⟩⟩⟩⟩⟩⟩⟩⟩⟩⟩⟩⟩⟩⟩⟩)
theorem xf1_mem {β : Type} : ∀ (t : List (Nat × β)) (q : Nat) (x : β), xf1 t q = some x → (q, x) ∈ t
  | [], q, x, h => by simp [xf1] at h
  | (p, y) :: r, q, x, h => by
    rw [xf1] at h
    cases hb : Nat.beq p q with
    | true =>
      rw [hb] at h
      have hp : p = q := Nat.eq_of_beq_eq_true hb
      have hx : y = x := by simpa using h
      rw [hp, hx]
      exact List.mem_cons_self
    | false =>
      rw [hb] at h
      exact List.mem_cons_of_mem _ (xf1_mem r q x (by simpa using h))
theorem xf2_mem {β : Type} : ∀ (t : List (Nat × List (Nat × β))) (q : Nat) (x : β), xf2 t q = some x → ∃ p es, (p, es) ∈ t ∧ (q, x) ∈ es
  | [], q, x, h => by simp [xf2] at h
  | (p, es) :: r, q, x, h => by
    rw [xf2] at h
    cases hb : Nat.blt q p with
    | true =>
      rw [hb] at h
      exact ⟨p, es, List.mem_cons_self, xf1_mem es q x (by simpa using h)⟩
    | false =>
      rw [hb] at h
      obtain ⟨p', es', h1, h2⟩ := xf2_mem r q x (by simpa using h)
      exact ⟨p', es', List.mem_cons_of_mem _ h1, h2⟩
def xokk (q : Nat × List (Nat × List (Nat × xEn))) : Prop := xall q.1 q.2 = true
theorem xokc_0 : ∀ q ∈ ([(0, xc_0), (1, xc_1), (2, xc_2), (3, xc_3), (4, xc_4), (5, xc_5), (6, xc_6), (7, xc_7), (8, xc_8), (9, xc_9), (10, xc_10), (11, xc_11)] : List (Nat × List (Nat × List (Nat × xEn)))), xokk q := List.forall_mem_cons.mpr ⟨xok_0, List.forall_mem_cons.mpr ⟨xok_1, List.forall_mem_cons.mpr ⟨xok_2, List.forall_mem_cons.mpr ⟨xok_3, List.forall_mem_cons.mpr ⟨xok_4, List.forall_mem_cons.mpr ⟨xok_5, List.forall_mem_cons.mpr ⟨xok_6, List.forall_mem_cons.mpr ⟨xok_7, List.forall_mem_cons.mpr ⟨xok_8, List.forall_mem_cons.mpr ⟨xok_9, List.forall_mem_cons.mpr ⟨xok_10, List.forall_mem_cons.mpr ⟨xok_11, fun _ h => absurd h List.not_mem_nil⟩⟩⟩⟩⟩⟩⟩⟩⟩⟩⟩⟩
theorem xokc_1 : ∀ q ∈ ([(12, xc_12), (13, xc_13), (14, xc_14), (15, xc_15), (16, xc_16), (17, xc_17), (18, xc_18), (19, xc_19), (20, xc_20), (21, xc_21), (22, xc_22), (23, xc_23)] : List (Nat × List (Nat × List (Nat × xEn)))), xokk q := List.forall_mem_cons.mpr ⟨xok_12, List.forall_mem_cons.mpr ⟨xok_13, List.forall_mem_cons.mpr ⟨xok_14, List.forall_mem_cons.mpr ⟨xok_15, List.forall_mem_cons.mpr ⟨xok_16, List.forall_mem_cons.mpr ⟨xok_17, List.forall_mem_cons.mpr ⟨xok_18, List.forall_mem_cons.mpr ⟨xok_19, List.forall_mem_cons.mpr ⟨xok_20, List.forall_mem_cons.mpr ⟨xok_21, List.forall_mem_cons.mpr ⟨xok_22, List.forall_mem_cons.mpr ⟨xok_23, fun _ h => absurd h List.not_mem_nil⟩⟩⟩⟩⟩⟩⟩⟩⟩⟩⟩⟩
theorem xokc_2 : ∀ q ∈ ([(24, xc_24), (25, xc_25), (26, xc_26), (27, xc_27), (28, xc_28), (29, xc_29), (30, xc_30), (31, xc_31), (32, xc_32), (33, xc_33), (34, xc_34), (35, xc_35)] : List (Nat × List (Nat × List (Nat × xEn)))), xokk q := List.forall_mem_cons.mpr ⟨xok_24, List.forall_mem_cons.mpr ⟨xok_25, List.forall_mem_cons.mpr ⟨xok_26, List.forall_mem_cons.mpr ⟨xok_27, List.forall_mem_cons.mpr ⟨xok_28, List.forall_mem_cons.mpr ⟨xok_29, List.forall_mem_cons.mpr ⟨xok_30, List.forall_mem_cons.mpr ⟨xok_31, List.forall_mem_cons.mpr ⟨xok_32, List.forall_mem_cons.mpr ⟨xok_33, List.forall_mem_cons.mpr ⟨xok_34, List.forall_mem_cons.mpr ⟨xok_35, fun _ h => absurd h List.not_mem_nil⟩⟩⟩⟩⟩⟩⟩⟩⟩⟩⟩⟩
theorem xokc_3 : ∀ q ∈ ([(36, xc_36), (37, xc_37), (38, xc_38), (39, xc_39), (40, xc_40), (41, xc_41), (42, xc_42), (43, xc_43), (44, xc_44), (45, xc_45), (46, xc_46), (47, xc_47)] : List (Nat × List (Nat × List (Nat × xEn)))), xokk q := List.forall_mem_cons.mpr ⟨xok_36, List.forall_mem_cons.mpr ⟨xok_37, List.forall_mem_cons.mpr ⟨xok_38, List.forall_mem_cons.mpr ⟨xok_39, List.forall_mem_cons.mpr ⟨xok_40, List.forall_mem_cons.mpr ⟨xok_41, List.forall_mem_cons.mpr ⟨xok_42, List.forall_mem_cons.mpr ⟨xok_43, List.forall_mem_cons.mpr ⟨xok_44, List.forall_mem_cons.mpr ⟨xok_45, List.forall_mem_cons.mpr ⟨xok_46, List.forall_mem_cons.mpr ⟨xok_47, fun _ h => absurd h List.not_mem_nil⟩⟩⟩⟩⟩⟩⟩⟩⟩⟩⟩⟩
theorem xokc_4 : ∀ q ∈ ([(48, xc_48), (49, xc_49), (50, xc_50), (51, xc_51), (52, xc_52), (53, xc_53), (54, xc_54), (55, xc_55), (56, xc_56), (57, xc_57), (58, xc_58), (59, xc_59)] : List (Nat × List (Nat × List (Nat × xEn)))), xokk q := List.forall_mem_cons.mpr ⟨xok_48, List.forall_mem_cons.mpr ⟨xok_49, List.forall_mem_cons.mpr ⟨xok_50, List.forall_mem_cons.mpr ⟨xok_51, List.forall_mem_cons.mpr ⟨xok_52, List.forall_mem_cons.mpr ⟨xok_53, List.forall_mem_cons.mpr ⟨xok_54, List.forall_mem_cons.mpr ⟨xok_55, List.forall_mem_cons.mpr ⟨xok_56, List.forall_mem_cons.mpr ⟨xok_57, List.forall_mem_cons.mpr ⟨xok_58, List.forall_mem_cons.mpr ⟨xok_59, fun _ h => absurd h List.not_mem_nil⟩⟩⟩⟩⟩⟩⟩⟩⟩⟩⟩⟩
theorem xokc_5 : ∀ q ∈ ([(60, xc_60), (61, xc_61), (62, xc_62), (63, xc_63), (64, xc_64), (65, xc_65), (66, xc_66), (67, xc_67), (68, xc_68), (69, xc_69), (70, xc_70), (71, xc_71)] : List (Nat × List (Nat × List (Nat × xEn)))), xokk q := List.forall_mem_cons.mpr ⟨xok_60, List.forall_mem_cons.mpr ⟨xok_61, List.forall_mem_cons.mpr ⟨xok_62, List.forall_mem_cons.mpr ⟨xok_63, List.forall_mem_cons.mpr ⟨xok_64, List.forall_mem_cons.mpr ⟨xok_65, List.forall_mem_cons.mpr ⟨xok_66, List.forall_mem_cons.mpr ⟨xok_67, List.forall_mem_cons.mpr ⟨xok_68, List.forall_mem_cons.mpr ⟨xok_69, List.forall_mem_cons.mpr ⟨xok_70, List.forall_mem_cons.mpr ⟨xok_71, fun _ h => absurd h List.not_mem_nil⟩⟩⟩⟩⟩⟩⟩⟩⟩⟩⟩⟩
theorem xokc_6 : ∀ q ∈ ([(72, xc_72), (73, xc_73), (74, xc_74), (75, xc_75), (76, xc_76), (77, xc_77), (78, xc_78), (79, xc_79), (80, xc_80), (81, xc_81), (82, xc_82), (83, xc_83)] : List (Nat × List (Nat × List (Nat × xEn)))), xokk q := List.forall_mem_cons.mpr ⟨xok_72, List.forall_mem_cons.mpr ⟨xok_73, List.forall_mem_cons.mpr ⟨xok_74, List.forall_mem_cons.mpr ⟨xok_75, List.forall_mem_cons.mpr ⟨xok_76, List.forall_mem_cons.mpr ⟨xok_77, List.forall_mem_cons.mpr ⟨xok_78, List.forall_mem_cons.mpr ⟨xok_79, List.forall_mem_cons.mpr ⟨xok_80, List.forall_mem_cons.mpr ⟨xok_81, List.forall_mem_cons.mpr ⟨xok_82, List.forall_mem_cons.mpr ⟨xok_83, fun _ h => absurd h List.not_mem_nil⟩⟩⟩⟩⟩⟩⟩⟩⟩⟩⟩⟩
theorem xokc_7 : ∀ q ∈ ([(84, xc_84), (85, xc_85), (86, xc_86), (87, xc_87), (88, xc_88), (89, xc_89), (90, xc_90), (91, xc_91), (92, xc_92), (93, xc_93), (94, xc_94), (95, xc_95)] : List (Nat × List (Nat × List (Nat × xEn)))), xokk q := List.forall_mem_cons.mpr ⟨xok_84, List.forall_mem_cons.mpr ⟨xok_85, List.forall_mem_cons.mpr ⟨xok_86, List.forall_mem_cons.mpr ⟨xok_87, List.forall_mem_cons.mpr ⟨xok_88, List.forall_mem_cons.mpr ⟨xok_89, List.forall_mem_cons.mpr ⟨xok_90, List.forall_mem_cons.mpr ⟨xok_91, List.forall_mem_cons.mpr ⟨xok_92, List.forall_mem_cons.mpr ⟨xok_93, List.forall_mem_cons.mpr ⟨xok_94, List.forall_mem_cons.mpr ⟨xok_95, fun _ h => absurd h List.not_mem_nil⟩⟩⟩⟩⟩⟩⟩⟩⟩⟩⟩⟩
theorem xokc_8 : ∀ q ∈ ([(96, xc_96), (97, xc_97), (98, xc_98), (99, xc_99), (100, xc_100), (101, xc_101), (102, xc_102), (103, xc_103), (104, xc_104), (105, xc_105), (106, xc_106), (107, xc_107)] : List (Nat × List (Nat × List (Nat × xEn)))), xokk q := List.forall_mem_cons.mpr ⟨xok_96, List.forall_mem_cons.mpr ⟨xok_97, List.forall_mem_cons.mpr ⟨xok_98, List.forall_mem_cons.mpr ⟨xok_99, List.forall_mem_cons.mpr ⟨xok_100, List.forall_mem_cons.mpr ⟨xok_101, List.forall_mem_cons.mpr ⟨xok_102, List.forall_mem_cons.mpr ⟨xok_103, List.forall_mem_cons.mpr ⟨xok_104, List.forall_mem_cons.mpr ⟨xok_105, List.forall_mem_cons.mpr ⟨xok_106, List.forall_mem_cons.mpr ⟨xok_107, fun _ h => absurd h List.not_mem_nil⟩⟩⟩⟩⟩⟩⟩⟩⟩⟩⟩⟩
theorem xokc_9 : ∀ q ∈ ([(108, xc_108), (109, xc_109), (110, xc_110), (111, xc_111), (112, xc_112), (113, xc_113), (114, xc_114), (115, xc_115), (116, xc_116), (117, xc_117), (118, xc_118), (119, xc_119)] : List (Nat × List (Nat × List (Nat × xEn)))), xokk q := List.forall_mem_cons.mpr ⟨xok_108, List.forall_mem_cons.mpr ⟨xok_109, List.forall_mem_cons.mpr ⟨xok_110, List.forall_mem_cons.mpr ⟨xok_111, List.forall_mem_cons.mpr ⟨xok_112, List.forall_mem_cons.mpr ⟨xok_113, List.forall_mem_cons.mpr ⟨xok_114, List.forall_mem_cons.mpr ⟨xok_115, List.forall_mem_cons.mpr ⟨xok_116, List.forall_mem_cons.mpr ⟨xok_117, List.forall_mem_cons.mpr ⟨xok_118, List.forall_mem_cons.mpr ⟨xok_119, fun _ h => absurd h List.not_mem_nil⟩⟩⟩⟩⟩⟩⟩⟩⟩⟩⟩⟩
theorem xokc_10 : ∀ q ∈ ([(120, xc_120), (121, xc_121), (122, xc_122), (123, xc_123), (124, xc_124), (125, xc_125), (126, xc_126), (127, xc_127), (128, xc_128), (129, xc_129), (130, xc_130), (131, xc_131)] : List (Nat × List (Nat × List (Nat × xEn)))), xokk q := List.forall_mem_cons.mpr ⟨xok_120, List.forall_mem_cons.mpr ⟨xok_121, List.forall_mem_cons.mpr ⟨xok_122, List.forall_mem_cons.mpr ⟨xok_123, List.forall_mem_cons.mpr ⟨xok_124, List.forall_mem_cons.mpr ⟨xok_125, List.forall_mem_cons.mpr ⟨xok_126, List.forall_mem_cons.mpr ⟨xok_127, List.forall_mem_cons.mpr ⟨xok_128, List.forall_mem_cons.mpr ⟨xok_129, List.forall_mem_cons.mpr ⟨xok_130, List.forall_mem_cons.mpr ⟨xok_131, fun _ h => absurd h List.not_mem_nil⟩⟩⟩⟩⟩⟩⟩⟩⟩⟩⟩⟩
theorem xokc_11 : ∀ q ∈ ([(132, xc_132), (133, xc_133), (134, xc_134), (135, xc_135), (136, xc_136), (137, xc_137), (138, xc_138), (139, xc_139), (140, xc_140), (141, xc_141), (142, xc_142), (143, xc_143)] : List (Nat × List (Nat × List (Nat × xEn)))), xokk q := List.forall_mem_cons.mpr ⟨xok_132, List.forall_mem_cons.mpr ⟨xok_133, List.forall_mem_cons.mpr ⟨xok_134, List.forall_mem_cons.mpr ⟨xok_135, List.forall_mem_cons.mpr ⟨xok_136, List.forall_mem_cons.mpr ⟨xok_137, List.forall_mem_cons.mpr ⟨xok_138, List.forall_mem_cons.mpr ⟨xok_139, List.forall_mem_cons.mpr ⟨xok_140, List.forall_mem_cons.mpr ⟨xok_141, List.forall_mem_cons.mpr ⟨xok_142, List.forall_mem_cons.mpr ⟨xok_143, fun _ h => absurd h List.not_mem_nil⟩⟩⟩⟩⟩⟩⟩⟩⟩⟩⟩⟩
theorem xokc_12 : ∀ q ∈ ([(144, xc_144), (145, xc_145), (146, xc_146), (147, xc_147), (148, xc_148)] : List (Nat × List (Nat × List (Nat × xEn)))), xokk q := List.forall_mem_cons.mpr ⟨xok_144, List.forall_mem_cons.mpr ⟨xok_145, List.forall_mem_cons.mpr ⟨xok_146, List.forall_mem_cons.mpr ⟨xok_147, List.forall_mem_cons.mpr ⟨xok_148, fun _ h => absurd h List.not_mem_nil⟩⟩⟩⟩⟩
theorem xokall : ∀ q ∈ xcode, ∀ e ∈ q.2, xokk e := List.forall_mem_cons.mpr ⟨xokc_0, List.forall_mem_cons.mpr ⟨xokc_1, List.forall_mem_cons.mpr ⟨xokc_2, List.forall_mem_cons.mpr ⟨xokc_3, List.forall_mem_cons.mpr ⟨xokc_4, List.forall_mem_cons.mpr ⟨xokc_5, List.forall_mem_cons.mpr ⟨xokc_6, List.forall_mem_cons.mpr ⟨xokc_7, List.forall_mem_cons.mpr ⟨xokc_8, List.forall_mem_cons.mpr ⟨xokc_9, List.forall_mem_cons.mpr ⟨xokc_10, List.forall_mem_cons.mpr ⟨xokc_11, List.forall_mem_cons.mpr ⟨xokc_12, fun _ h => absurd h List.not_mem_nil⟩⟩⟩⟩⟩⟩⟩⟩⟩⟩⟩⟩⟩
theorem xfetch_ok {m pc : Nat} {e : xEn} (h : xfetch m pc = some e) : xchk m pc e = true := by
  unfold xfetch at h
  cases ht : xf2 xcode m with
  | none => rw [ht] at h; cases h
  | some t =>
    rw [ht] at h
    obtain ⟨p, es, h1, h2⟩ := xf2_mem _ _ _ ht
    have h3 : xall m t = true := xokall _ h1 _ h2
    obtain ⟨p', es', h4, h5⟩ := xf2_mem _ _ _ h
    unfold xall at h3
    rw [List.all_eq_true] at h3
    have h6 := h3 (p', es') h4
    rw [List.all_eq_true] at h6
    exact h6 (pc, e) h5
end
section
/-! what a method does, as a function: fuel and rank are taken to their limits -/
section XB
variable {α β : Type}
theorem xcv_b (c : Option xV) (f : xV → Option α) (g : α → Option β) : (xcv c f).bind g = xcv c fun v => (f v).bind g := by cases c <;> rfl
theorem xpI_b (st : List xV) (f : Int32 → List xV → Option α) (g : α → Option β) : (xpI st f).bind g = xpI st fun x r => (f x r).bind g := by unfold xpI; split <;> rfl
theorem xpJ_b (st : List xV) (f : Int64 → List xV → Option α) (g : α → Option β) : (xpJ st f).bind g = xpJ st fun x r => (f x r).bind g := by unfold xpJ; split <;> rfl
theorem xpF_b (st : List xV) (f : UInt32 → List xV → Option α) (g : α → Option β) : (xpF st f).bind g = xpF st fun x r => (f x r).bind g := by unfold xpF; split <;> rfl
theorem xpD_b (st : List xV) (f : UInt64 → List xV → Option α) (g : α → Option β) : (xpD st f).bind g = xpD st fun x r => (f x r).bind g := by unfold xpD; split <;> rfl
theorem xpA_b (st : List xV) (f : Option Nat → List xV → Option α) (g : α → Option β) : (xpA st f).bind g = xpA st fun x r => (f x r).bind g := by unfold xpA; split <;> rfl
theorem xnl_b (st : List xV) (f : Option α) (g : α → Option β) : (xnl st f).bind g = xnl st (f.bind g) := by unfold xnl; split <;> rfl
theorem xlI_b (l : xL) (i : Nat) (f : Int32 → Option α) (g : α → Option β) : (xlI l i f).bind g = xlI l i fun x => (f x).bind g := by unfold xlI; split <;> rfl
theorem xlJ_b (l : xL) (i : Nat) (f : Int64 → Option α) (g : α → Option β) : (xlJ l i f).bind g = xlJ l i fun x => (f x).bind g := by unfold xlJ; split <;> rfl
theorem xlF_b (l : xL) (i : Nat) (f : UInt32 → Option α) (g : α → Option β) : (xlF l i f).bind g = xlF l i fun x => (f x).bind g := by unfold xlF; split <;> rfl
theorem xlD_b (l : xL) (i : Nat) (f : UInt64 → Option α) (g : α → Option β) : (xlD l i f).bind g = xlD l i fun x => (f x).bind g := by unfold xlD; split <;> rfl
theorem xlA_b (l : xL) (i : Nat) (f : Option Nat → Option α) (g : α → Option β) : (xlA l i f).bind g = xlA l i fun x => (f x).bind g := by unfold xlA; split <;> rfl
theorem xrV_b (r : Option xV) (f : Option α) (g : α → Option β) : (xrV r f).bind g = xrV r (f.bind g) := by unfold xrV; split <;> rfl
theorem xrI_b (r : Option xV) (f : Int32 → Option α) (g : α → Option β) : (xrI r f).bind g = xrI r fun x => (f x).bind g := by unfold xrI; split <;> rfl
theorem xrJ_b (r : Option xV) (f : Int64 → Option α) (g : α → Option β) : (xrJ r f).bind g = xrJ r fun x => (f x).bind g := by unfold xrJ; split <;> rfl
theorem xrD_b (r : Option xV) (f : UInt64 → Option α) (g : α → Option β) : (xrD r f).bind g = xrD r fun x => (f x).bind g := by unfold xrD; split <;> rfl
theorem xrA_b (r : Option xV) (f : Option Nat → Option α) (g : α → Option β) : (xrA r f).bind g = xrA r fun x => (f x).bind g := by unfold xrA; split <;> rfl
theorem xrc_b (r : List xV) (f : Option Nat → Option α) (g : α → Option β) : (xrc r f).bind g = xrc r fun x => (f x).bind g := by unfold xrc; split <;> rfl
theorem xnF_b (x : UInt32) (f : UInt32 → Option α) (g : α → Option β) : (xnF x f).bind g = xnF x fun x => (f x).bind g := by unfold xnF; split <;> rfl
theorem xnD_b (x : UInt64) (f : UInt64 → Option α) (g : α → Option β) : (xnD x f).bind g = xnD x fun x => (f x).bind g := by unfold xnD; split <;> rfl
theorem xif_b (c : Prop) [Decidable c] (x y : Option α) (g : α → Option β) : (if c then x else y).bind g = if c then x.bind g else y.bind g := by split <;> rfl
theorem xco_b (c : Bool) (x y : Option α) (g : α → Option β) : (bif c then x else y).bind g = bif c then x.bind g else y.bind g := by cases c <;> rfl
theorem xsw_b (x : Int32) (pc : Nat) (f : Nat → Option α) (g : α → Option β) : ∀ (os : List Int) (j : Int) (d : Nat), (xsw x pc f j os d).bind g = xsw x pc (fun t => (f t).bind g) j os d
  | [], _, _ => rfl
  | o :: r, j, d => by
    simp only [xsw]
    split
    · rfl
    · exact xsw_b x pc f g r (j + 1) d
theorem xans_b (cv r : Option xV) (st : List xV) (f : List xV → Option α) (g : α → Option β) : (xans cv r st f).bind g = xans cv r st fun s => (f s).bind g := by
  unfold xans
  split <;> simp only [xrV_b, xrI_b, xrJ_b, xrD_b, xrA_b, Option.bind_none]
theorem xno_b (g : α → Option β) : (none : Option α).bind g = none := rfl
theorem xas_b {γ : Type} (o : Option α) (f : α → Option β) (g : β → Option γ) : (o.bind f).bind g = o.bind fun x => (f x).bind g := by cases o <;> rfl
end XB
abbrev xR : Type := Option xV × xW
abbrev xK : Type := Nat → xL → List xV → xW → Option xR
abbrev xNx : Type := (Nat × xL × List xV × xW) ⊕ xR
def xel {α : Type} (k : Nat → xL → List xV → xW → Option α) (ret : Option xV → xW → Option α) : xNx → Option α
  | .inl q => k q.1 q.2.1 q.2.2.1 q.2.2.2
  | .inr q => ret q.1 q.2
def xk0 : Nat → xL → List xV → xW → Option xNx := fun p l s w => some (.inl (p, l, s, w))
def xr0 : Option xV → xW → Option xNx := fun r w => some (.inr (r, w))
theorem xk0_b {α : Type} (k : Nat → xL → List xV → xW → Option α) (ret : Option xV → xW → Option α) (p : Nat) (l : xL) (s : List xV) (w : xW) : (xk0 p l s w).bind (xel k ret) = k p l s w := rfl
theorem xr0_b {α : Type} (k : Nat → xL → List xV → xW → Option α) (ret : Option xV → xW → Option α) (r : Option xV) (w : xW) : (xr0 r w).bind (xel k ret) = ret r w := rfl
set_option maxHeartbeats 4000000 in
theorem xexec_nat {α : Type} (cal : Nat → List xV → xW → Option xR) (i : Instr) (pc len a b : Nat) (cv : Option xV) (l : xL) (st : List xV) (w : xW) (k : Nat → xL → List xV → xW → Option α) (ret : Option xV → xW → Option α) :
    xexec cal i pc len a b cv l st w k ret = (xexec cal i pc len a b cv l st w xk0 xr0).bind (xel k ret) := by
  cases i <;> first
    | (simp only [xexec, xcv_b, xpI_b, xpJ_b, xpF_b, xpD_b, xpA_b, xnl_b, xlI_b, xlJ_b, xlF_b, xlD_b, xlA_b, xrV_b, xrI_b, xrJ_b, xrD_b, xrA_b, xrc_b, xnF_b, xnD_b, xif_b, xco_b, xsw_b, xans_b, xno_b, xas_b, xk0_b, xr0_b]; done)
    | (rename_i c _; cases c <;> simp only [xexec, xpI_b, xpA_b, xif_b, xk0_b, xno_b]; done)
    | (unfold xexec; cases cv with
        | none => simp only [xpA_b, xas_b, xno_b]
        | some v => obtain x | x | x | x | x := v <;> simp only [xpI_b, xpJ_b, xpD_b, xpA_b, xas_b, xno_b, xk0_b]
       done)
    | (unfold xexec; cases b <;> simp only [xpI_b, xnl_b, xr0_b, xif_b, xno_b]; done)
/-! limits -/
noncomputable def xlim {β : Type} (f : Nat → Option β) : Option β := @dite _ (∃ r, ∃ n, f n = some r) (Classical.propDecidable _) (fun h => some h.choose) (fun _ => none)
def xmon {β : Type} (f : Nat → Option β) : Prop := ∀ n r, f n = some r → f (n + 1) = some r
theorem xmon_le {β : Type} {f : Nat → Option β} (h : xmon f) {n m : Nat} {r : β} (hn : f n = some r) (hm : n ≤ m) : f m = some r := by
  induction hm with
  | refl => exact hn
  | step _ ih => exact h _ _ ih
theorem xlim_some {β : Type} {f : Nat → Option β} (h : xmon f) {r : β} : xlim f = some r ↔ ∃ n, f n = some r := by
  constructor
  · intro hl
    unfold xlim at hl
    by_cases hx : ∃ r, ∃ n, f n = some r
    · rw [dif_pos hx] at hl
      obtain ⟨n, hn⟩ := hx.choose_spec
      exact ⟨n, hn.trans hl⟩
    · rw [dif_neg hx] at hl
      cases hl
  · rintro ⟨n, hn⟩
    have hx : ∃ r, ∃ n, f n = some r := ⟨r, n, hn⟩
    unfold xlim
    rw [dif_pos hx]
    obtain ⟨m, hm⟩ := hx.choose_spec
    have h1 := xmon_le h hn (Nat.le_max_left n m)
    have h2 := xmon_le h hm (Nat.le_max_right n m)
    rw [h1] at h2
    exact h2.symm
theorem xlim_ext {β : Type} {f g : Nat → Option β} (hf : xmon f) (hg : xmon g) (h : ∀ r, (∃ n, f n = some r) ↔ ∃ n, g n = some r) : xlim f = xlim g := by
  cases hx : xlim f with
  | none =>
    cases hy : xlim g with
    | none => rfl
    | some r =>
      have := (xlim_some hf).mpr ((h r).mpr ((xlim_some hg).mp hy))
      rw [hx] at this
      cases this
  | some r => exact ((xlim_some hg).mpr ((h r).mp ((xlim_some hf).mp hx))).symm
theorem xlim_const {β : Type} (o : Option β) : xlim (fun _ => o) = o := by
  have hm : xmon (fun _ : Nat => o) := fun _ _ h => h
  cases o with
  | none =>
    cases hx : xlim (fun _ : Nat => (none : Option β)) with
    | none => rfl
    | some r => obtain ⟨_, h⟩ := (xlim_some hm).mp hx; cases h
  | some r => exact (xlim_some hm).mpr ⟨0, rfl⟩
/-! runs -/
def xstp (cal : Nat → List xV → xW → Option xR) (m : Nat) (k : xK) (pc : Nat) (l : xL) (st : List xV) (w : xW) : Option xR := match xfetch m pc with
  | none => none
  | some (i, len, a, b, cv, mm) => xexec cal i pc len a b cv (xmk mm l) st w k (fun r w => some (r, w))
def xst0 (cal : Nat → List xV → xW → Option xR) (m : Nat) (pc : Nat) (l : xL) (st : List xV) (w : xW) : Option xNx := match xfetch m pc with
  | none => none
  | some (i, len, a, b, cv, mm) => xexec cal i pc len a b cv (xmk mm l) st w xk0 xr0
theorem xstp_eq (cal : Nat → List xV → xW → Option xR) (m : Nat) (k : xK) (pc : Nat) (l : xL) (st : List xV) (w : xW) : xstp cal m k pc l st w = (xst0 cal m pc l st w).bind (xel k fun r w => some (r, w)) := by
  unfold xstp xst0
  split
  · rfl
  · exact xexec_nat ..
def xrun (cal : Nat → List xV → xW → Option xR) (m : Nat) : Nat → xK
  | 0 => fun _ _ _ _ => none
  | n + 1 => xstp cal m (xrun cal m n)
theorem xrun_mon (cal : Nat → List xV → xW → Option xR) (m : Nat) : ∀ (n pc : Nat) (l : xL) (st : List xV) (w : xW) (r : xR), xrun cal m n pc l st w = some r → xrun cal m (n + 1) pc l st w = some r
  | 0, pc, l, st, w, r, h => by cases h
  | n + 1, pc, l, st, w, r, h => by
    have h1 : xstp cal m (xrun cal m n) pc l st w = some r := h
    show xstp cal m (xrun cal m (n + 1)) pc l st w = some r
    rw [xstp_eq] at h1 ⊢
    cases hx : xst0 cal m pc l st w with
    | none => rw [hx] at h1; cases h1
    | some z =>
      rw [hx] at h1
      cases z with
      | inl q => exact xrun_mon cal m n _ _ _ _ r h1
      | inr q => exact h1
theorem xrun_xm (cal : Nat → List xV → xW → Option xR) (m pc : Nat) (l : xL) (st : List xV) (w : xW) : xmon (fun n => xrun cal m n pc l st w) := fun n r h => xrun_mon cal m n pc l st w r h
noncomputable def xlm (cal : Nat → List xV → xW → Option xR) (m : Nat) : xK := fun pc l st w => xlim (fun n => xrun cal m n pc l st w)
theorem xlm_eq (cal : Nat → List xV → xW → Option xR) (m pc : Nat) (l : xL) (st : List xV) (w : xW) : xlm cal m pc l st w = xstp cal m (xlm cal m) pc l st w := by
  rw [xstp_eq]
  cases hx : xst0 cal m pc l st w with
  | none =>
    have h0 : (fun n => xrun cal m n pc l st w) = fun _ => none := by
      funext n
      cases n with
      | zero => rfl
      | succ n =>
        show xstp cal m (xrun cal m n) pc l st w = none
        rw [xstp_eq, hx]
        rfl
    show xlim _ = none
    rw [h0]
    exact xlim_const none
  | some z =>
    cases z with
    | inl q =>
      show xlim _ = xlim _
      refine xlim_ext (xrun_xm cal m pc l st w) (xrun_xm cal m q.1 q.2.1 q.2.2.1 q.2.2.2) (fun r => ⟨?_, ?_⟩)
      · rintro ⟨n, hn⟩
        cases n with
        | zero => cases hn
        | succ n =>
          have h1 : xstp cal m (xrun cal m n) pc l st w = some r := hn
          rw [xstp_eq, hx] at h1
          exact ⟨n, h1⟩
      · rintro ⟨n, hn⟩
        refine ⟨n + 1, ?_⟩
        show xstp cal m (xrun cal m n) pc l st w = some r
        rw [xstp_eq, hx]
        exact hn
    | inr q =>
      show xlim _ = some q
      refine (xlim_some (xrun_xm cal m pc l st w)).mpr ⟨1, ?_⟩
      show xstp cal m (xrun cal m 0) pc l st w = some q
      rw [xstp_eq, hx]
      rfl
/-- a call, of a method of lower rank -/
def xca (ev : Nat → xK) (m : Nat) : Nat → List xV → xW → Option xR := fun y as w => bif Nat.blt (xrk y) (xrk m) && Nat.ble (xent1 as).length (xml y) then ev y 0 (xent2 (xml y) (xent1 as)) [] w else none
noncomputable def xEr : Nat → Nat → xK
  | 0 => fun _ _ _ _ _ => none
  | k + 1 => fun m => bif Nat.blt (xrk m) k then xEr k m else xlm (xca (xEr k) m) m
/-- what a method does from a place on -/
noncomputable def xev (m : Nat) : xK := xEr (xrk m + 1) m
theorem xEr_st : ∀ (k m : Nat), xrk m < k → xEr k m = xev m
  | 0, m, h => absurd h (Nat.not_lt_zero _)
  | k + 1, m, h => by
    by_cases hk : xrk m < k
    · have hb : Nat.blt (xrk m) k = true := by simpa [Nat.blt_eq] using hk
      show (bif Nat.blt (xrk m) k then xEr k m else _) = _
      rw [hb]
      exact xEr_st k m hk
    · have he : k = xrk m := by omega
      rw [he]
      rfl
theorem xca_st (m : Nat) : xca (xEr (xrk m)) m = xca xev m := by
  funext y as w
  unfold xca
  by_cases hk : xrk y < xrk m
  · rw [xEr_st _ _ hk]
  · have hb : Nat.blt (xrk y) (xrk m) = false := by
      cases hx : Nat.blt (xrk y) (xrk m) with
      | false => rfl
      | true => exact absurd (by simpa [Nat.blt_eq] using hx) hk
    rw [hb]
    rfl
theorem xev_lm (m : Nat) : xev m = xlm (xca xev m) m := by
  unfold xev
  show (bif Nat.blt (xrk m) (xrk m) then xEr (xrk m) m else xlm (xca (xEr (xrk m)) m) m) = _
  have hb : Nat.blt (xrk m) (xrk m) = false := by
    cases hx : Nat.blt (xrk m) (xrk m) with
    | false => rfl
    | true => exact absurd (Nat.blt_eq.mp hx) (Nat.lt_irrefl (xrk m))
  rw [hb, xca_st]
  rfl
theorem xev_eq (m pc : Nat) (l : xL) (st : List xV) (w : xW) : xev m pc l st w = xstp (xca xev m) m (xev m) pc l st w := by
  rw [xev_lm m]
  exact xlm_eq ..
theorem xmk_mk : ∀ (ms : List Bool) (l : xL), xmk ms (xmk ms l) = xmk ms l := by
  intro ms l
  cases ms with
  | nil => rfl
  | cons c cs =>
    show List.zipWith _ (c :: cs) (List.zipWith _ (c :: cs) l) = List.zipWith _ (c :: cs) l
    generalize c :: cs = ms
    induction ms generalizing l with
    | nil => rfl
    | cons c cs ih =>
      cases l with
      | nil => rfl
      | cons x l =>
        simp only [List.zipWith_cons_cons]
        rw [ih l]
        cases c <;> rfl
/-- up to the next place where paths meet -/
def xgo (cal : Nat → List xV → xW → Option xR) (m : Nat) (kk : xK) : Nat → xK
  | 0 => kk
  | n + 1 => fun pc l st w => match xfetch m pc with
    | none => none
    | some (i, len, a, b, cv, []) => xexec cal i pc len a b cv l st w (xgo cal m kk n) (fun r w => some (r, w))
    | some (_, _, _, _, _, c :: cs) => kk pc (xmk (c :: cs) l) st w
theorem xgo_ev (m : Nat) : ∀ n, xgo (xca xev m) m (xev m) n = xev m
  | 0 => rfl
  | n + 1 => by
    funext pc l st w
    unfold xgo
    cases hf : xfetch m pc with
    | none =>
      rw [xev_eq]
      unfold xstp
      rw [hf]
    | some e =>
      obtain ⟨i, len, a, b, cv, mm⟩ := e
      cases mm with
      | nil =>
        rw [xgo_ev m n]
        show xexec .. = _
        rw [xev_eq m pc]
        unfold xstp
        rw [hf]
        rfl
      | cons c cs =>
        show xev m pc (xmk (c :: cs) l) st w = _
        rw [xev_eq, xev_eq m pc l]
        unfold xstp
        rw [hf]
        show xexec _ _ _ _ _ _ _ (xmk (c :: cs) (xmk (c :: cs) l)) _ _ _ _ = _
        rw [xmk_mk]
theorem xev_go (m n pc : Nat) (l : xL) (st : List xV) (w : xW) : xev m pc l st w = xstp (xca xev m) m (xgo (xca xev m) m (xev m) n) pc l st w := by
  rw [xgo_ev]
  exact xev_eq ..
end
section
def b_X1_init_0 (ev : Nat → xK) (a0 : Nat) (w : xW) : Option xR := (xnew w 4 (10 : Int32)).bind fun w1 => (xput w1 a0 0 0 (xA (some w.1))).bind fun w2 => (ev 31 0 [some (xA (some w2.1)), some (xI (11 : Int32)), some (xJ (0 : Int64)), none, some (xD (0 : UInt64)), none] [] (xpush w2 3 (.inr (5, xdf 5)))).bind fun p3 => xrV p3.1 (ev 0 27 [some (xA (some a0)), some (xA (some w2.1)), some (xI (0 : Int32))] [] p3.2)
set_option maxRecDepth 100000 in
set_option maxHeartbeats 4000000 in
theorem r_X1_init_0 (ev : Nat → xK) (a0 : Nat) (w : xW) : xstp (xca ev 0) 0 (xgo (xca ev 0) 0 (ev 0) 17) 0 [some (xA (some a0)), none, none] [] w = b_X1_init_0 ev a0 w := rfl
theorem e_X1_init_0 (a0 : Nat) (w : xW) : xev 0 0 [some (xA (some a0)), none, none] [] w = b_X1_init_0 xev a0 w := (xev_go 0 17 0 [some (xA (some a0)), none, none] [] w).trans (r_X1_init_0 xev a0 w)
def b_X1_init_27 (ev : Nat → xK) (a0 : Nat) (a1 : Nat) (n2 : Int32) (w : xW) : Option xR := if n2 < (10 : Int32) then (xgA w a0 0 0).bind fun r1 => r1.bind fun o3 => (xsA w o3 n2 a1).bind fun w2 => ev 0 27 [some (xA (some a0)), some (xA (some a1)), some (xI (n2 + (1 : Int32)))] [] w2 else some (none, w)
set_option maxRecDepth 100000 in
set_option maxHeartbeats 4000000 in
theorem r_X1_init_27 (ev : Nat → xK) (a0 : Nat) (a1 : Nat) (n2 : Int32) (w : xW) : xstp (xca ev 0) 0 (xgo (xca ev 0) 0 (ev 0) 12) 27 [some (xA (some a0)), some (xA (some a1)), some (xI n2)] [] w = b_X1_init_27 ev a0 a1 n2 w := rfl
theorem e_X1_init_27 (a0 : Nat) (a1 : Nat) (n2 : Int32) (w : xW) : xev 0 27 [some (xA (some a0)), some (xA (some a1)), some (xI n2)] [] w = b_X1_init_27 xev a0 a1 n2 w := (xev_go 0 12 27 [some (xA (some a0)), some (xA (some a1)), some (xI n2)] [] w).trans (r_X1_init_27 xev a0 a1 n2 w)
def b_X1_at_0 (ev : Nat → xK) (a0 : Nat) (n1 : Int32) (w : xW) : Option xR := (xgA w a0 0 0).bind fun r1 => r1.bind fun o3 => (xaA w o3 n1).bind fun r2 => some (some (xA r2), w)
set_option maxRecDepth 100000 in
set_option maxHeartbeats 4000000 in
theorem r_X1_at_0 (ev : Nat → xK) (a0 : Nat) (n1 : Int32) (w : xW) : xstp (xca ev 1) 1 (xgo (xca ev 1) 1 (ev 1) 6) 0 [some (xA (some a0)), some (xI n1)] [] w = b_X1_at_0 ev a0 n1 w := rfl
theorem e_X1_at_0 (a0 : Nat) (n1 : Int32) (w : xW) : xev 1 0 [some (xA (some a0)), some (xI n1)] [] w = b_X1_at_0 xev a0 n1 w := (xev_go 1 6 0 [some (xA (some a0)), some (xI n1)] [] w).trans (r_X1_at_0 xev a0 n1 w)
def b_X1_put_0 (ev : Nat → xK) (a0 : Nat) (n1 : Int32) (a2 : Nat) (w : xW) : Option xR := (xgA w a0 0 0).bind fun r1 => r1.bind fun o3 => (xsA w o3 n1 a2).bind fun w2 => some (none, w2)
set_option maxRecDepth 100000 in
set_option maxHeartbeats 4000000 in
theorem r_X1_put_0 (ev : Nat → xK) (a0 : Nat) (n1 : Int32) (a2 : Nat) (w : xW) : xstp (xca ev 2) 2 (xgo (xca ev 2) 2 (ev 2) 7) 0 [some (xA (some a0)), some (xI n1), some (xA (some a2))] [] w = b_X1_put_0 ev a0 n1 a2 w := rfl
theorem e_X1_put_0 (a0 : Nat) (n1 : Int32) (a2 : Nat) (w : xW) : xev 2 0 [some (xA (some a0)), some (xI n1), some (xA (some a2))] [] w = b_X1_put_0 xev a0 n1 a2 w := (xev_go 2 7 0 [some (xA (some a0)), some (xI n1), some (xA (some a2))] [] w).trans (r_X1_put_0 xev a0 n1 a2 w)
def b_X1_twin_0 (ev : Nat → xK) (a0 : Nat) (w : xW) : Option xR := (ev 0 0 [some (xA (some w.1)), none, none] [] (xpush w 1 (.inr (0, xdf 0)))).bind fun p1 => xrV p1.1 (ev 3 10 [some (xA (some a0)), some (xA (some w.1)), some (xI (0 : Int32)), none, none, none] [] p1.2)
set_option maxRecDepth 100000 in
set_option maxHeartbeats 4000000 in
theorem r_X1_twin_0 (ev : Nat → xK) (a0 : Nat) (w : xW) : xstp (xca ev 3) 3 (xgo (xca ev 3) 3 (ev 3) 8) 0 [some (xA (some a0)), none, none, none, none, none] [] w = b_X1_twin_0 ev a0 w := rfl
theorem e_X1_twin_0 (a0 : Nat) (w : xW) : xev 3 0 [some (xA (some a0)), none, none, none, none, none] [] w = b_X1_twin_0 xev a0 w := (xev_go 3 8 0 [some (xA (some a0)), none, none, none, none, none] [] w).trans (r_X1_twin_0 xev a0 w)
def b_X1_twin_10 (ev : Nat → xK) (a0 : Nat) (a1 : Nat) (n2 : Int32) (w : xW) : Option xR := if n2 < (10 : Int32) then (xgA w a0 0 0).bind fun r1 => r1.bind fun o3 => (xaA w o3 n2).bind fun r2 => (xobj w a0 0).bind fun _ => (ev 4 0 [some (xA (some a0)), some (xA r2), none] [] w).bind fun p4 => xrI p4.1 fun i5 => if i5 < n2 then (xgA p4.2 a1 0 0).bind fun r6 => (xgA p4.2 a1 0 0).bind fun r7 => r7.bind fun o9 => (xaA p4.2 o9 i5).bind fun r8 => r6.bind fun o11 => r8.bind fun o12 => (xsA p4.2 o11 n2 o12).bind fun w10 => ev 3 10 [some (xA (some a0)), some (xA (some a1)), some (xI (n2 + (1 : Int32))), none, none, none] [] w10 else (xgA p4.2 a0 0 0).bind fun r13 => r13.bind fun o15 => (xaA p4.2 o15 n2).bind fun r14 => if r14 = none then (xgA p4.2 a1 0 0).bind fun r17 => (xgA p4.2 a0 0 0).bind fun r18 => r18.bind fun o20 => (xaA p4.2 o20 n2).bind fun r19 => r17.bind fun o22 => r19.bind fun o23 => (xsA p4.2 o22 n2 o23).bind fun w21 => ev 3 10 [some (xA (some a0)), some (xA (some a1)), some (xI (n2 + (1 : Int32))), none, none, none] [] w21 else r14.bind fun o24 => (xcno p4.2 o24).bind fun c16 => if c16 = 3 then r14.bind fun o25 => (xobj p4.2 o25 3).bind fun _ => (xgA p4.2 a1 0 0).bind fun r26 => r14.bind fun o28 => (xobj p4.2 o28 3).bind fun _ => (ev 19 0 [some (xA r14)] [] p4.2).bind fun p27 => xrI p27.1 fun i29 => r14.bind fun o31 => (xobj p27.2 o31 3).bind fun _ => (ev 24 0 [some (xA r14), some (xI (0 : Int32)), some (xI i29), none, none] [] p27.2).bind fun p30 => xrA p30.1 fun r32 => r26.bind fun o34 => r32.bind fun o35 => (xsA p30.2 o34 n2 o35).bind fun w33 => ev 3 10 [some (xA (some a0)), some (xA (some a1)), some (xI (n2 + (1 : Int32))), none, none, none] [] w33 else if c16 = 5 then (xgA p4.2 a1 0 0).bind fun r36 => (xgA p4.2 a0 0 0).bind fun r37 => r37.bind fun o39 => (xaA p4.2 o39 n2).bind fun r38 => r36.bind fun o41 => r38.bind fun o42 => (xsA p4.2 o41 n2 o42).bind fun w40 => ev 3 10 [some (xA (some a0)), some (xA (some a1)), some (xI (n2 + (1 : Int32))), none, none, none] [] w40 else none else some (some (xA (some a1)), w)
set_option maxRecDepth 100000 in
set_option maxHeartbeats 4000000 in
theorem r_X1_twin_10 (ev : Nat → xK) (a0 : Nat) (a1 : Nat) (n2 : Int32) (w : xW) : xstp (xca ev 3) 3 (xgo (xca ev 3) 3 (ev 3) 38) 10 [some (xA (some a0)), some (xA (some a1)), some (xI n2), none, none, none] [] w = b_X1_twin_10 ev a0 a1 n2 w := rfl
theorem e_X1_twin_10 (a0 : Nat) (a1 : Nat) (n2 : Int32) (w : xW) : xev 3 10 [some (xA (some a0)), some (xA (some a1)), some (xI n2), none, none, none] [] w = b_X1_twin_10 xev a0 a1 n2 w := (xev_go 3 38 10 [some (xA (some a0)), some (xA (some a1)), some (xI n2), none, none, none] [] w).trans (r_X1_twin_10 xev a0 a1 n2 w)
def b_X1_firstWith_0 (ev : Nat → xK) (a0 : Nat) (a1 : Nat) (w : xW) : Option xR := ev 4 2 [some (xA (some a0)), some (xA (some a1)), some (xI (0 : Int32))] [] w
set_option maxRecDepth 100000 in
set_option maxHeartbeats 4000000 in
theorem r_X1_firstWith_0 (ev : Nat → xK) (a0 : Nat) (a1 : Nat) (w : xW) : xstp (xca ev 4) 4 (xgo (xca ev 4) 4 (ev 4) 4) 0 [some (xA (some a0)), some (xA (some a1)), none] [] w = b_X1_firstWith_0 ev a0 a1 w := rfl
theorem e_X1_firstWith_0 (a0 : Nat) (a1 : Nat) (w : xW) : xev 4 0 [some (xA (some a0)), some (xA (some a1)), none] [] w = b_X1_firstWith_0 xev a0 a1 w := (xev_go 4 4 0 [some (xA (some a0)), some (xA (some a1)), none] [] w).trans (r_X1_firstWith_0 xev a0 a1 w)
def b_X1_firstWith_2 (ev : Nat → xK) (a0 : Nat) (a1 : Nat) (n2 : Int32) (w : xW) : Option xR := if n2 < (10 : Int32) then (xgA w a0 0 0).bind fun r1 => r1.bind fun o3 => (xaA w o3 n2).bind fun r2 => if r2 = some a1 then some (some (xI n2), w) else ev 4 2 [some (xA (some a0)), some (xA (some a1)), some (xI (n2 + (1 : Int32)))] [] w else some (some (xI (10 : Int32)), w)
set_option maxRecDepth 100000 in
set_option maxHeartbeats 4000000 in
theorem r_X1_firstWith_2 (ev : Nat → xK) (a0 : Nat) (a1 : Nat) (n2 : Int32) (w : xW) : xstp (xca ev 4) 4 (xgo (xca ev 4) 4 (ev 4) 13) 2 [some (xA (some a0)), some (xA (some a1)), some (xI n2)] [] w = b_X1_firstWith_2 ev a0 a1 n2 w := rfl
theorem e_X1_firstWith_2 (a0 : Nat) (a1 : Nat) (n2 : Int32) (w : xW) : xev 4 2 [some (xA (some a0)), some (xA (some a1)), some (xI n2)] [] w = b_X1_firstWith_2 xev a0 a1 n2 w := (xev_go 4 13 2 [some (xA (some a0)), some (xA (some a1)), some (xI n2)] [] w).trans (r_X1_firstWith_2 xev a0 a1 n2 w)
def b_X2_init_0 (ev : Nat → xK) (a0 : Nat) (w : xW) : Option xR := (xnew w 0 (24 : Int32)).bind fun w1 => (xput w1 a0 1 0 (xA (some w.1))).bind fun w2 => (xnew w2 0 (24 : Int32)).bind fun w3 => (xput w3 a0 1 1 (xA (some w2.1))).bind fun w4 => (xput w4 a0 1 2 (xI (0 : Int32))).bind fun w5 => some (none, w5)
set_option maxRecDepth 100000 in
set_option maxHeartbeats 4000000 in
theorem r_X2_init_0 (ev : Nat → xK) (a0 : Nat) (w : xW) : xstp (xca ev 5) 5 (xgo (xca ev 5) 5 (ev 5) 15) 0 [some (xA (some a0))] [] w = b_X2_init_0 ev a0 w := rfl
theorem e_X2_init_0 (a0 : Nat) (w : xW) : xev 5 0 [some (xA (some a0))] [] w = b_X2_init_0 xev a0 w := (xev_go 5 15 0 [some (xA (some a0))] [] w).trans (r_X2_init_0 xev a0 w)
def b_X2_clear_0 (ev : Nat → xK) (a0 : Nat) (w : xW) : Option xR := (xput w a0 1 2 (xI (0 : Int32))).bind fun w1 => some (none, w1)
set_option maxRecDepth 100000 in
set_option maxHeartbeats 4000000 in
theorem r_X2_clear_0 (ev : Nat → xK) (a0 : Nat) (w : xW) : xstp (xca ev 6) 6 (xgo (xca ev 6) 6 (ev 6) 5) 0 [some (xA (some a0))] [] w = b_X2_clear_0 ev a0 w := rfl
theorem e_X2_clear_0 (a0 : Nat) (w : xW) : xev 6 0 [some (xA (some a0))] [] w = b_X2_clear_0 xev a0 w := (xev_go 6 5 0 [some (xA (some a0))] [] w).trans (r_X2_clear_0 xev a0 w)
def b_X2_add_0 (ev : Nat → xK) (a0 : Nat) (n1 : Int32) (n2 : Int32) (w : xW) : Option xR := (xgI w a0 1 2).bind fun i1 => if i1 < (24 : Int32) then (xgA w a0 1 0).bind fun r2 => (xgI w a0 1 2).bind fun i3 => r2.bind fun o5 => (xsI w o5 i3 n1).bind fun w4 => (xgA w4 a0 1 1).bind fun r6 => (xgI w4 a0 1 2).bind fun i7 => r6.bind fun o9 => (xsI w4 o9 i7 n2).bind fun w8 => (xgI w8 a0 1 2).bind fun i10 => (xput w8 a0 1 2 (xI (i10 + (1 : Int32)))).bind fun w11 => some (some (xI (1 : Int32)), w11) else some (some (xI (0 : Int32)), w)
set_option maxRecDepth 100000 in
set_option maxHeartbeats 4000000 in
theorem r_X2_add_0 (ev : Nat → xK) (a0 : Nat) (n1 : Int32) (n2 : Int32) (w : xW) : xstp (xca ev 7) 7 (xgo (xca ev 7) 7 (ev 7) 25) 0 [some (xA (some a0)), some (xI n1), some (xI n2)] [] w = b_X2_add_0 ev a0 n1 n2 w := rfl
theorem e_X2_add_0 (a0 : Nat) (n1 : Int32) (n2 : Int32) (w : xW) : xev 7 0 [some (xA (some a0)), some (xI n1), some (xI n2)] [] w = b_X2_add_0 xev a0 n1 n2 w := (xev_go 7 25 0 [some (xA (some a0)), some (xI n1), some (xI n2)] [] w).trans (r_X2_add_0 xev a0 n1 n2 w)
def b_X2_size_0 (ev : Nat → xK) (a0 : Nat) (w : xW) : Option xR := (xgI w a0 1 2).bind fun i1 => some (some (xI i1), w)
set_option maxRecDepth 100000 in
set_option maxHeartbeats 4000000 in
theorem r_X2_size_0 (ev : Nat → xK) (a0 : Nat) (w : xW) : xstp (xca ev 8) 8 (xgo (xca ev 8) 8 (ev 8) 4) 0 [some (xA (some a0))] [] w = b_X2_size_0 ev a0 w := rfl
theorem e_X2_size_0 (a0 : Nat) (w : xW) : xev 8 0 [some (xA (some a0))] [] w = b_X2_size_0 xev a0 w := (xev_go 8 4 0 [some (xA (some a0))] [] w).trans (r_X2_size_0 xev a0 w)
def b_X2_has_0 (ev : Nat → xK) (a0 : Nat) (n1 : Int32) (w : xW) : Option xR := if n1 < 0 then some (some (xI (0 : Int32)), w) else (xgI w a0 1 2).bind fun i1 => if n1 < i1 then some (some (xI (1 : Int32)), w) else some (some (xI (0 : Int32)), w)
set_option maxRecDepth 100000 in
set_option maxHeartbeats 4000000 in
theorem r_X2_has_0 (ev : Nat → xK) (a0 : Nat) (n1 : Int32) (w : xW) : xstp (xca ev 9) 9 (xgo (xca ev 9) 9 (ev 9) 10) 0 [some (xA (some a0)), some (xI n1)] [] w = b_X2_has_0 ev a0 n1 w := rfl
theorem e_X2_has_0 (a0 : Nat) (n1 : Int32) (w : xW) : xev 9 0 [some (xA (some a0)), some (xI n1)] [] w = b_X2_has_0 xev a0 n1 w := (xev_go 9 10 0 [some (xA (some a0)), some (xI n1)] [] w).trans (r_X2_has_0 xev a0 n1 w)
def b_X2_index_0 (ev : Nat → xK) (a0 : Nat) (n1 : Int32) (n2 : Int32) (w : xW) : Option xR := (xobj w a0 1).bind fun _ => (ev 9 0 [some (xA (some a0)), some (xI n1)] [] w).bind fun p1 => xrI p1.1 fun i2 => if i2 = 0 then some (some (xI (-6 : Int32)), p1.2) else if n2 = 0 then (xgA p1.2 a0 1 0).bind fun r3 => r3.bind fun o5 => (xaI p1.2 o5 n1).bind fun i4 => some (some (xI i4), p1.2) else (xgA p1.2 a0 1 1).bind fun r6 => r6.bind fun o8 => (xaI p1.2 o8 n1).bind fun i7 => some (some (xI i7), p1.2)
set_option maxRecDepth 100000 in
set_option maxHeartbeats 4000000 in
theorem r_X2_index_0 (ev : Nat → xK) (a0 : Nat) (n1 : Int32) (n2 : Int32) (w : xW) : xstp (xca ev 10) 10 (xgo (xca ev 10) 10 (ev 10) 13) 0 [some (xA (some a0)), some (xI n1), some (xI n2)] [] w = b_X2_index_0 ev a0 n1 n2 w := rfl
theorem e_X2_index_0 (a0 : Nat) (n1 : Int32) (n2 : Int32) (w : xW) : xev 10 0 [some (xA (some a0)), some (xI n1), some (xI n2)] [] w = b_X2_index_0 xev a0 n1 n2 w := (xev_go 10 13 0 [some (xA (some a0)), some (xI n1), some (xI n2)] [] w).trans (r_X2_index_0 xev a0 n1 n2 w)
def b_X3_init_0 (ev : Nat → xK) (a0 : Nat) (w : xW) : Option xR := (xnew w 5 (24 : Int32)).bind fun w1 => (xput w1 a0 2 0 (xA (some w.1))).bind fun w2 => (ev 31 0 [some (xA (some w2.1)), some (xI (11 : Int32)), some (xJ (0 : Int64)), none, some (xD (0 : UInt64)), none] [] (xpush w2 3 (.inr (5, xdf 5)))).bind fun p3 => xrV p3.1 ((xput p3.2 a0 2 1 (xA (some w2.1))).bind fun w4 => (xput w4 a0 2 2 (xI (0 : Int32))).bind fun w5 => some (none, w5))
set_option maxRecDepth 100000 in
set_option maxHeartbeats 4000000 in
theorem r_X3_init_0 (ev : Nat → xK) (a0 : Nat) (w : xW) : xstp (xca ev 11) 11 (xgo (xca ev 11) 11 (ev 11) 19) 0 [some (xA (some a0))] [] w = b_X3_init_0 ev a0 w := rfl
theorem e_X3_init_0 (a0 : Nat) (w : xW) : xev 11 0 [some (xA (some a0))] [] w = b_X3_init_0 xev a0 w := (xev_go 11 19 0 [some (xA (some a0))] [] w).trans (r_X3_init_0 xev a0 w)
def b_X3_clear_0 (ev : Nat → xK) (a0 : Nat) (w : xW) : Option xR := (xput w a0 2 2 (xI (0 : Int32))).bind fun w1 => some (none, w1)
set_option maxRecDepth 100000 in
set_option maxHeartbeats 4000000 in
theorem r_X3_clear_0 (ev : Nat → xK) (a0 : Nat) (w : xW) : xstp (xca ev 12) 12 (xgo (xca ev 12) 12 (ev 12) 5) 0 [some (xA (some a0))] [] w = b_X3_clear_0 ev a0 w := rfl
theorem e_X3_clear_0 (a0 : Nat) (w : xW) : xev 12 0 [some (xA (some a0))] [] w = b_X3_clear_0 xev a0 w := (xev_go 12 5 0 [some (xA (some a0))] [] w).trans (r_X3_clear_0 xev a0 w)
def b_X3_add_0 (ev : Nat → xK) (a0 : Nat) (a1 : Nat) (w : xW) : Option xR := (xgI w a0 2 2).bind fun i1 => (xgA w a0 2 0).bind fun r2 => r2.bind fun o4 => (xlen w o4).bind fun i3 => if i1 < i3 then (xgA w a0 2 0).bind fun r5 => (xgI w a0 2 2).bind fun i6 => r5.bind fun o8 => (xsA w o8 i6 a1).bind fun w7 => (xgI w7 a0 2 2).bind fun i9 => (xput w7 a0 2 2 (xI (i9 + (1 : Int32)))).bind fun w10 => some (none, w10) else some (none, w)
set_option maxRecDepth 100000 in
set_option maxHeartbeats 4000000 in
theorem r_X3_add_0 (ev : Nat → xK) (a0 : Nat) (a1 : Nat) (w : xW) : xstp (xca ev 13) 13 (xgo (xca ev 13) 13 (ev 13) 20) 0 [some (xA (some a0)), some (xA (some a1))] [] w = b_X3_add_0 ev a0 a1 w := rfl
theorem e_X3_add_0 (a0 : Nat) (a1 : Nat) (w : xW) : xev 13 0 [some (xA (some a0)), some (xA (some a1))] [] w = b_X3_add_0 xev a0 a1 w := (xev_go 13 20 0 [some (xA (some a0)), some (xA (some a1))] [] w).trans (r_X3_add_0 xev a0 a1 w)
def b_X3_size_0 (ev : Nat → xK) (a0 : Nat) (w : xW) : Option xR := (xgI w a0 2 2).bind fun i1 => some (some (xI i1), w)
set_option maxRecDepth 100000 in
set_option maxHeartbeats 4000000 in
theorem r_X3_size_0 (ev : Nat → xK) (a0 : Nat) (w : xW) : xstp (xca ev 14) 14 (xgo (xca ev 14) 14 (ev 14) 4) 0 [some (xA (some a0))] [] w = b_X3_size_0 ev a0 w := rfl
theorem e_X3_size_0 (a0 : Nat) (w : xW) : xev 14 0 [some (xA (some a0))] [] w = b_X3_size_0 xev a0 w := (xev_go 14 4 0 [some (xA (some a0))] [] w).trans (r_X3_size_0 xev a0 w)
def b_X3_at_0 (ev : Nat → xK) (a0 : Nat) (n1 : Int32) (w : xW) : Option xR := if n1 < 0 then (xgA w a0 2 1).bind fun r1 => some (some (xA r1), w) else (xgI w a0 2 2).bind fun i2 => if n1 < i2 then (xgA w a0 2 0).bind fun r3 => r3.bind fun o5 => (xaA w o5 n1).bind fun r4 => some (some (xA r4), w) else (xgA w a0 2 1).bind fun r6 => some (some (xA r6), w)
set_option maxRecDepth 100000 in
set_option maxHeartbeats 4000000 in
theorem r_X3_at_0 (ev : Nat → xK) (a0 : Nat) (n1 : Int32) (w : xW) : xstp (xca ev 15) 15 (xgo (xca ev 15) 15 (ev 15) 13) 0 [some (xA (some a0)), some (xI n1)] [] w = b_X3_at_0 ev a0 n1 w := rfl
theorem e_X3_at_0 (a0 : Nat) (n1 : Int32) (w : xW) : xev 15 0 [some (xA (some a0)), some (xI n1)] [] w = b_X3_at_0 xev a0 n1 w := (xev_go 15 13 0 [some (xA (some a0)), some (xI n1)] [] w).trans (r_X3_at_0 xev a0 n1 w)
def b_X3_total_0 (ev : Nat → xK) (a0 : Nat) (n1 : Int32) (w : xW) : Option xR := ev 16 8 [some (xA (some a0)), some (xI n1), some (xJ (0 : Int64)), none, some (xD (0 : UInt64)), none, some (xI (0 : Int32)), none] [] w
set_option maxRecDepth 100000 in
set_option maxHeartbeats 4000000 in
theorem r_X3_total_0 (ev : Nat → xK) (a0 : Nat) (n1 : Int32) (w : xW) : xstp (xca ev 16) 16 (xgo (xca ev 16) 16 (ev 16) 8) 0 [some (xA (some a0)), some (xI n1), none, none, none, none, none, none] [] w = b_X3_total_0 ev a0 n1 w := rfl
theorem e_X3_total_0 (a0 : Nat) (n1 : Int32) (w : xW) : xev 16 0 [some (xA (some a0)), some (xI n1), none, none, none, none, none, none] [] w = b_X3_total_0 xev a0 n1 w := (xev_go 16 8 0 [some (xA (some a0)), some (xI n1), none, none, none, none, none, none] [] w).trans (r_X3_total_0 xev a0 n1 w)
def b_X3_total_8 (ev : Nat → xK) (a0 : Nat) (n1 : Int32) (v2 : Int64) (y4 : UInt64) (n6 : Int32) (w : xW) : Option xR := (xgI w a0 2 2).bind fun i1 => if n6 < i1 then (xgA w a0 2 0).bind fun r2 => r2.bind fun o4 => (xaA w o4 n6).bind fun r3 => r3.bind fun o6 => (xgJ w o6 5 1).bind fun j5 => if n1 = (6 : Int32) then xnF (FP.d2f y4) fun z7 => r3.bind fun o9 => (xgD w o9 5 2).bind fun d8 => xnF (FP.d2f d8) fun z10 => xnF (FP.fadd z7 z10) fun z11 => xnD (FP.f2d z11) fun z12 => ev 16 8 [some (xA (some a0)), some (xI n1), some (xJ (v2 + j5)), none, some (xD z12), none, some (xI (n6 + (1 : Int32))), none] [] w else r3.bind fun o14 => (xgD w o14 5 2).bind fun d13 => xnD (FP.dadd y4 d13) fun z15 => ev 16 8 [some (xA (some a0)), some (xI n1), some (xJ (v2 + j5)), none, some (xD z15), none, some (xI (n6 + (1 : Int32))), none] [] w else if n1 = (6 : Int32) then (ev 31 0 [some (xA (some w.1)), some (xI n1), some (xJ (0 : Int64)), none, some (xD y4), none] [] (xpush w 3 (.inr (5, xdf 5)))).bind fun p16 => xrV p16.1 (some (some (xA (some w.1)), p16.2)) else if n1 = (7 : Int32) then (ev 31 0 [some (xA (some w.1)), some (xI n1), some (xJ (0 : Int64)), none, some (xD y4), none] [] (xpush w 3 (.inr (5, xdf 5)))).bind fun p17 => xrV p17.1 (some (some (xA (some w.1)), p17.2)) else (ev 31 0 [some (xA (some w.1)), some (xI (5 : Int32)), some (xJ v2), none, some (xD (0 : UInt64)), none] [] (xpush w 3 (.inr (5, xdf 5)))).bind fun p18 => xrV p18.1 (some (some (xA (some w.1)), p18.2))
set_option maxRecDepth 100000 in
set_option maxHeartbeats 4000000 in
theorem r_X3_total_8 (ev : Nat → xK) (a0 : Nat) (n1 : Int32) (v2 : Int64) (y4 : UInt64) (n6 : Int32) (w : xW) : xstp (xca ev 16) 16 (xgo (xca ev 16) 16 (ev 16) 30) 8 [some (xA (some a0)), some (xI n1), some (xJ v2), none, some (xD y4), none, some (xI n6), none] [] w = b_X3_total_8 ev a0 n1 v2 y4 n6 w := rfl
theorem e_X3_total_8 (a0 : Nat) (n1 : Int32) (v2 : Int64) (y4 : UInt64) (n6 : Int32) (w : xW) : xev 16 8 [some (xA (some a0)), some (xI n1), some (xJ v2), none, some (xD y4), none, some (xI n6), none] [] w = b_X3_total_8 xev a0 n1 v2 y4 n6 w := (xev_go 16 30 8 [some (xA (some a0)), some (xI n1), some (xJ v2), none, some (xD y4), none, some (xI n6), none] [] w).trans (r_X3_total_8 xev a0 n1 v2 y4 n6 w)
def b_X4_init_0 (ev : Nat → xK) (a0 : Nat) (n1 : Int32) (n2 : Int32) (w : xW) : Option xR := (xput w a0 3 0 (xI n1)).bind fun w1 => if (7 : Int32) < n1 then (ev 31 0 [some (xA (some w1.1)), some (xI (11 : Int32)), some (xJ (0 : Int64)), none, some (xD (0 : UInt64)), none] [] (xpush w1 3 (.inr (5, xdf 5)))).bind fun p2 => xrV p2.1 ((xput p2.2 a0 3 2 (xA (some w1.1))).bind fun w3 => (xnew w3 5 n2).bind fun w4 => (xput w4 a0 3 1 (xA (some w3.1))).bind fun w5 => ev 17 44 [some (xA (some a0)), none, some (xI n2), some (xI (0 : Int32))] [] w5) else (ev 31 0 [some (xA (some w1.1)), some (xI n1), some (xJ (0 : Int64)), none, some (xD (0 : UInt64)), none] [] (xpush w1 3 (.inr (5, xdf 5)))).bind fun p6 => xrV p6.1 ((xput p6.2 a0 3 2 (xA (some w1.1))).bind fun w7 => (xnew w7 5 n2).bind fun w8 => (xput w8 a0 3 1 (xA (some w7.1))).bind fun w9 => ev 17 44 [some (xA (some a0)), none, some (xI n2), some (xI (0 : Int32))] [] w9)
set_option maxRecDepth 100000 in
set_option maxHeartbeats 4000000 in
theorem r_X4_init_0 (ev : Nat → xK) (a0 : Nat) (n1 : Int32) (n2 : Int32) (w : xW) : xstp (xca ev 17) 17 (xgo (xca ev 17) 17 (ev 17) 25) 0 [some (xA (some a0)), some (xI n1), some (xI n2), none] [] w = b_X4_init_0 ev a0 n1 n2 w := rfl
theorem e_X4_init_0 (a0 : Nat) (n1 : Int32) (n2 : Int32) (w : xW) : xev 17 0 [some (xA (some a0)), some (xI n1), some (xI n2), none] [] w = b_X4_init_0 xev a0 n1 n2 w := (xev_go 17 25 0 [some (xA (some a0)), some (xI n1), some (xI n2), none] [] w).trans (r_X4_init_0 xev a0 n1 n2 w)
def b_X4_init_44 (ev : Nat → xK) (a0 : Nat) (n2 : Int32) (n3 : Int32) (w : xW) : Option xR := if n3 < n2 then (xgA w a0 3 1).bind fun r1 => (xgA w a0 3 2).bind fun r2 => r1.bind fun o4 => r2.bind fun o5 => (xsA w o4 n3 o5).bind fun w3 => ev 17 44 [some (xA (some a0)), none, some (xI n2), some (xI (n3 + (1 : Int32)))] [] w3 else some (none, w)
set_option maxRecDepth 100000 in
set_option maxHeartbeats 4000000 in
theorem r_X4_init_44 (ev : Nat → xK) (a0 : Nat) (n2 : Int32) (n3 : Int32) (w : xW) : xstp (xca ev 17) 17 (xgo (xca ev 17) 17 (ev 17) 13) 44 [some (xA (some a0)), none, some (xI n2), some (xI n3)] [] w = b_X4_init_44 ev a0 n2 n3 w := rfl
theorem e_X4_init_44 (a0 : Nat) (n2 : Int32) (n3 : Int32) (w : xW) : xev 17 44 [some (xA (some a0)), none, some (xI n2), some (xI n3)] [] w = b_X4_init_44 xev a0 n2 n3 w := (xev_go 17 13 44 [some (xA (some a0)), none, some (xI n2), some (xI n3)] [] w).trans (r_X4_init_44 xev a0 n2 n3 w)
def b_X4_content_0 (ev : Nat → xK) (a0 : Nat) (w : xW) : Option xR := (xgI w a0 3 0).bind fun i1 => some (some (xI i1), w)
set_option maxRecDepth 100000 in
set_option maxHeartbeats 4000000 in
theorem r_X4_content_0 (ev : Nat → xK) (a0 : Nat) (w : xW) : xstp (xca ev 18) 18 (xgo (xca ev 18) 18 (ev 18) 4) 0 [some (xA (some a0))] [] w = b_X4_content_0 ev a0 w := rfl
theorem e_X4_content_0 (a0 : Nat) (w : xW) : xev 18 0 [some (xA (some a0))] [] w = b_X4_content_0 xev a0 w := (xev_go 18 4 0 [some (xA (some a0))] [] w).trans (r_X4_content_0 xev a0 w)
def b_X4_size_0 (ev : Nat → xK) (a0 : Nat) (w : xW) : Option xR := (xgA w a0 3 1).bind fun r1 => r1.bind fun o3 => (xlen w o3).bind fun i2 => some (some (xI i2), w)
set_option maxRecDepth 100000 in
set_option maxHeartbeats 4000000 in
theorem r_X4_size_0 (ev : Nat → xK) (a0 : Nat) (w : xW) : xstp (xca ev 19) 19 (xgo (xca ev 19) 19 (ev 19) 5) 0 [some (xA (some a0))] [] w = b_X4_size_0 ev a0 w := rfl
theorem e_X4_size_0 (a0 : Nat) (w : xW) : xev 19 0 [some (xA (some a0))] [] w = b_X4_size_0 xev a0 w := (xev_go 19 5 0 [some (xA (some a0))] [] w).trans (r_X4_size_0 xev a0 w)
def b_X4_has_0 (ev : Nat → xK) (a0 : Nat) (n1 : Int32) (w : xW) : Option xR := if n1 < 0 then some (some (xI (0 : Int32)), w) else (xgA w a0 3 1).bind fun r1 => r1.bind fun o3 => (xlen w o3).bind fun i2 => if n1 < i2 then some (some (xI (1 : Int32)), w) else some (some (xI (0 : Int32)), w)
set_option maxRecDepth 100000 in
set_option maxHeartbeats 4000000 in
theorem r_X4_has_0 (ev : Nat → xK) (a0 : Nat) (n1 : Int32) (w : xW) : xstp (xca ev 20) 20 (xgo (xca ev 20) 20 (ev 20) 11) 0 [some (xA (some a0)), some (xI n1)] [] w = b_X4_has_0 ev a0 n1 w := rfl
theorem e_X4_has_0 (a0 : Nat) (n1 : Int32) (w : xW) : xev 20 0 [some (xA (some a0)), some (xI n1)] [] w = b_X4_has_0 xev a0 n1 w := (xev_go 20 11 0 [some (xA (some a0)), some (xI n1)] [] w).trans (r_X4_has_0 xev a0 n1 w)
def b_X4_at_0 (ev : Nat → xK) (a0 : Nat) (n1 : Int32) (w : xW) : Option xR := (xobj w a0 3).bind fun _ => (ev 20 0 [some (xA (some a0)), some (xI n1)] [] w).bind fun p1 => xrI p1.1 fun i2 => if i2 = 0 then (xgA p1.2 a0 3 2).bind fun r3 => some (some (xA r3), p1.2) else (xgA p1.2 a0 3 1).bind fun r4 => r4.bind fun o6 => (xaA p1.2 o6 n1).bind fun r5 => some (some (xA r5), p1.2)
set_option maxRecDepth 100000 in
set_option maxHeartbeats 4000000 in
theorem r_X4_at_0 (ev : Nat → xK) (a0 : Nat) (n1 : Int32) (w : xW) : xstp (xca ev 21) 21 (xgo (xca ev 21) 21 (ev 21) 11) 0 [some (xA (some a0)), some (xI n1)] [] w = b_X4_at_0 ev a0 n1 w := rfl
theorem e_X4_at_0 (a0 : Nat) (n1 : Int32) (w : xW) : xev 21 0 [some (xA (some a0)), some (xI n1)] [] w = b_X4_at_0 xev a0 n1 w := (xev_go 21 11 0 [some (xA (some a0)), some (xI n1)] [] w).trans (r_X4_at_0 xev a0 n1 w)
def b_X4_put_0 (ev : Nat → xK) (a0 : Nat) (n1 : Int32) (a2 : Nat) (w : xW) : Option xR := (xobj w a0 3).bind fun _ => (ev 20 0 [some (xA (some a0)), some (xI n1)] [] w).bind fun p1 => xrI p1.1 fun i2 => if i2 = 0 then some (none, p1.2) else (xgA p1.2 a0 3 1).bind fun r3 => (xgI p1.2 a0 3 0).bind fun i4 => if (7 : Int32) < i4 then r3.bind fun o6 => (xsA p1.2 o6 n1 a2).bind fun w5 => some (none, w5) else (xgI p1.2 a0 3 0).bind fun i7 => (xobj p1.2 a2 5).bind fun _ => (ev 35 0 [some (xA (some a2)), some (xI i7)] [] p1.2).bind fun p8 => xrA p8.1 fun r9 => r3.bind fun o11 => r9.bind fun o12 => (xsA p8.2 o11 n1 o12).bind fun w10 => some (none, w10)
set_option maxRecDepth 100000 in
set_option maxHeartbeats 4000000 in
theorem r_X4_put_0 (ev : Nat → xK) (a0 : Nat) (n1 : Int32) (a2 : Nat) (w : xW) : xstp (xca ev 22) 22 (xgo (xca ev 22) 22 (ev 22) 19) 0 [some (xA (some a0)), some (xI n1), some (xA (some a2))] [] w = b_X4_put_0 ev a0 n1 a2 w := rfl
theorem e_X4_put_0 (a0 : Nat) (n1 : Int32) (a2 : Nat) (w : xW) : xev 22 0 [some (xA (some a0)), some (xI n1), some (xA (some a2))] [] w = b_X4_put_0 xev a0 n1 a2 w := (xev_go 22 19 0 [some (xA (some a0)), some (xI n1), some (xA (some a2))] [] w).trans (r_X4_put_0 xev a0 n1 a2 w)
def b_X4_copy_0 (ev : Nat → xK) (a0 : Nat) (a1 : Nat) (n2 : Int32) (n3 : Int32) (n4 : Int32) (w : xW) : Option xR := ev 23 3 [some (xA (some a0)), some (xA (some a1)), some (xI n2), some (xI n3), some (xI n4), some (xI (0 : Int32))] [] w
set_option maxRecDepth 100000 in
set_option maxHeartbeats 4000000 in
theorem r_X4_copy_0 (ev : Nat → xK) (a0 : Nat) (a1 : Nat) (n2 : Int32) (n3 : Int32) (n4 : Int32) (w : xW) : xstp (xca ev 23) 23 (xgo (xca ev 23) 23 (ev 23) 4) 0 [some (xA (some a0)), some (xA (some a1)), some (xI n2), some (xI n3), some (xI n4), none] [] w = b_X4_copy_0 ev a0 a1 n2 n3 n4 w := rfl
theorem e_X4_copy_0 (a0 : Nat) (a1 : Nat) (n2 : Int32) (n3 : Int32) (n4 : Int32) (w : xW) : xev 23 0 [some (xA (some a0)), some (xA (some a1)), some (xI n2), some (xI n3), some (xI n4), none] [] w = b_X4_copy_0 xev a0 a1 n2 n3 n4 w := (xev_go 23 4 0 [some (xA (some a0)), some (xA (some a1)), some (xI n2), some (xI n3), some (xI n4), none] [] w).trans (r_X4_copy_0 xev a0 a1 n2 n3 n4 w)
def b_X4_copy_3 (ev : Nat → xK) (a0 : Nat) (a1 : Nat) (n2 : Int32) (n3 : Int32) (n4 : Int32) (n5 : Int32) (w : xW) : Option xR := if n5 < n4 then (xobj w a1 3).bind fun _ => (ev 21 0 [some (xA (some a1)), some (xI (n2 + n5))] [] w).bind fun p1 => xrA p1.1 fun r2 => (xobj p1.2 a0 3).bind fun _ => (ev 22 0 [some (xA (some a0)), some (xI (n3 + n5)), some (xA r2)] [] p1.2).bind fun p3 => xrV p3.1 (ev 23 3 [some (xA (some a0)), some (xA (some a1)), some (xI n2), some (xI n3), some (xI n4), some (xI (n5 + (1 : Int32)))] [] p3.2) else some (none, w)
set_option maxRecDepth 100000 in
set_option maxHeartbeats 4000000 in
theorem r_X4_copy_3 (ev : Nat → xK) (a0 : Nat) (a1 : Nat) (n2 : Int32) (n3 : Int32) (n4 : Int32) (n5 : Int32) (w : xW) : xstp (xca ev 23) 23 (xgo (xca ev 23) 23 (ev 23) 17) 3 [some (xA (some a0)), some (xA (some a1)), some (xI n2), some (xI n3), some (xI n4), some (xI n5)] [] w = b_X4_copy_3 ev a0 a1 n2 n3 n4 n5 w := rfl
theorem e_X4_copy_3 (a0 : Nat) (a1 : Nat) (n2 : Int32) (n3 : Int32) (n4 : Int32) (n5 : Int32) (w : xW) : xev 23 3 [some (xA (some a0)), some (xA (some a1)), some (xI n2), some (xI n3), some (xI n4), some (xI n5)] [] w = b_X4_copy_3 xev a0 a1 n2 n3 n4 n5 w := (xev_go 23 17 3 [some (xA (some a0)), some (xA (some a1)), some (xI n2), some (xI n3), some (xI n4), some (xI n5)] [] w).trans (r_X4_copy_3 xev a0 a1 n2 n3 n4 n5 w)
def b_X4_part_0 (ev : Nat → xK) (a0 : Nat) (n1 : Int32) (n2 : Int32) (w : xW) : Option xR := (xgI (xpush w 3 (.inr (3, xdf 3))) a0 3 0).bind fun i1 => (ev 17 0 [some (xA (some w.1)), some (xI i1), some (xI n2), none] [] (xpush w 3 (.inr (3, xdf 3)))).bind fun p2 => xrV p2.1 (ev 24 16 [some (xA (some a0)), some (xI n1), some (xI n2), some (xA (some w.1)), some (xI (0 : Int32))] [] p2.2)
set_option maxRecDepth 100000 in
set_option maxHeartbeats 4000000 in
theorem r_X4_part_0 (ev : Nat → xK) (a0 : Nat) (n1 : Int32) (n2 : Int32) (w : xW) : xstp (xca ev 24) 24 (xgo (xca ev 24) 24 (ev 24) 11) 0 [some (xA (some a0)), some (xI n1), some (xI n2), none, none] [] w = b_X4_part_0 ev a0 n1 n2 w := rfl
theorem e_X4_part_0 (a0 : Nat) (n1 : Int32) (n2 : Int32) (w : xW) : xev 24 0 [some (xA (some a0)), some (xI n1), some (xI n2), none, none] [] w = b_X4_part_0 xev a0 n1 n2 w := (xev_go 24 11 0 [some (xA (some a0)), some (xI n1), some (xI n2), none, none] [] w).trans (r_X4_part_0 xev a0 n1 n2 w)
def b_X4_part_16 (ev : Nat → xK) (a0 : Nat) (n1 : Int32) (n2 : Int32) (a3 : Nat) (n4 : Int32) (w : xW) : Option xR := if n4 < n2 then (xgA w a3 3 1).bind fun r1 => (xobj w a0 3).bind fun _ => (ev 21 0 [some (xA (some a0)), some (xI (n1 + n4))] [] w).bind fun p2 => xrA p2.1 fun r3 => r1.bind fun o5 => r3.bind fun o6 => (xsA p2.2 o5 n4 o6).bind fun w4 => ev 24 16 [some (xA (some a0)), some (xI n1), some (xI n2), some (xA (some a3)), some (xI (n4 + (1 : Int32)))] [] w4 else some (some (xA (some a3)), w)
set_option maxRecDepth 100000 in
set_option maxHeartbeats 4000000 in
theorem r_X4_part_16 (ev : Nat → xK) (a0 : Nat) (n1 : Int32) (n2 : Int32) (a3 : Nat) (n4 : Int32) (w : xW) : xstp (xca ev 24) 24 (xgo (xca ev 24) 24 (ev 24) 16) 16 [some (xA (some a0)), some (xI n1), some (xI n2), some (xA (some a3)), some (xI n4)] [] w = b_X4_part_16 ev a0 n1 n2 a3 n4 w := rfl
theorem e_X4_part_16 (a0 : Nat) (n1 : Int32) (n2 : Int32) (a3 : Nat) (n4 : Int32) (w : xW) : xev 24 16 [some (xA (some a0)), some (xI n1), some (xI n2), some (xA (some a3)), some (xI n4)] [] w = b_X4_part_16 xev a0 n1 n2 a3 n4 w := (xev_go 24 16 16 [some (xA (some a0)), some (xI n1), some (xI n2), some (xA (some a3)), some (xI n4)] [] w).trans (r_X4_part_16 xev a0 n1 n2 a3 n4 w)
def b_X4_firstUnfit_0 (ev : Nat → xK) (a0 : Nat) (n1 : Int32) (w : xW) : Option xR := ev 25 2 [some (xA (some a0)), some (xI n1), some (xI (0 : Int32))] [] w
set_option maxRecDepth 100000 in
set_option maxHeartbeats 4000000 in
theorem r_X4_firstUnfit_0 (ev : Nat → xK) (a0 : Nat) (n1 : Int32) (w : xW) : xstp (xca ev 25) 25 (xgo (xca ev 25) 25 (ev 25) 4) 0 [some (xA (some a0)), some (xI n1), none] [] w = b_X4_firstUnfit_0 ev a0 n1 w := rfl
theorem e_X4_firstUnfit_0 (a0 : Nat) (n1 : Int32) (w : xW) : xev 25 0 [some (xA (some a0)), some (xI n1), none] [] w = b_X4_firstUnfit_0 xev a0 n1 w := (xev_go 25 4 0 [some (xA (some a0)), some (xI n1), none] [] w).trans (r_X4_firstUnfit_0 xev a0 n1 w)
def b_X4_firstUnfit_2 (ev : Nat → xK) (a0 : Nat) (n1 : Int32) (n2 : Int32) (w : xW) : Option xR := (xgA w a0 3 1).bind fun r1 => r1.bind fun o3 => (xlen w o3).bind fun i2 => if n2 < i2 then (xgA w a0 3 1).bind fun r4 => r4.bind fun o6 => (xaA w o6 n2).bind fun r5 => r5.bind fun o8 => (xgI w o8 5 0).bind fun i7 => (ev 72 0 [some (xI n1), some (xI i7)] [] w).bind fun p9 => xrI p9.1 fun i10 => if i10 = 0 then some (some (xI n2), p9.2) else ev 25 2 [some (xA (some a0)), some (xI n1), some (xI (n2 + (1 : Int32)))] [] p9.2 else (xgA w a0 3 1).bind fun r11 => r11.bind fun o13 => (xlen w o13).bind fun i12 => some (some (xI i12), w)
set_option maxRecDepth 100000 in
set_option maxHeartbeats 4000000 in
theorem r_X4_firstUnfit_2 (ev : Nat → xK) (a0 : Nat) (n1 : Int32) (n2 : Int32) (w : xW) : xstp (xca ev 25) 25 (xgo (xca ev 25) 25 (ev 25) 17) 2 [some (xA (some a0)), some (xI n1), some (xI n2)] [] w = b_X4_firstUnfit_2 ev a0 n1 n2 w := rfl
theorem e_X4_firstUnfit_2 (a0 : Nat) (n1 : Int32) (n2 : Int32) (w : xW) : xev 25 2 [some (xA (some a0)), some (xI n1), some (xI n2)] [] w = b_X4_firstUnfit_2 xev a0 n1 n2 w := (xev_go 25 17 2 [some (xA (some a0)), some (xI n1), some (xI n2)] [] w).trans (r_X4_firstUnfit_2 xev a0 n1 n2 w)
def b_X4_commonHomes_0 (ev : Nat → xK) (a0 : Nat) (w : xW) : Option xR := ev 26 6 [some (xA (some a0)), some (xI (8191 : Int32)), some (xI (0 : Int32))] [] w
set_option maxRecDepth 100000 in
set_option maxHeartbeats 4000000 in
theorem r_X4_commonHomes_0 (ev : Nat → xK) (a0 : Nat) (w : xW) : xstp (xca ev 26) 26 (xgo (xca ev 26) 26 (ev 26) 6) 0 [some (xA (some a0)), none, none] [] w = b_X4_commonHomes_0 ev a0 w := rfl
theorem e_X4_commonHomes_0 (a0 : Nat) (w : xW) : xev 26 0 [some (xA (some a0)), none, none] [] w = b_X4_commonHomes_0 xev a0 w := (xev_go 26 6 0 [some (xA (some a0)), none, none] [] w).trans (r_X4_commonHomes_0 xev a0 w)
def b_X4_commonHomes_6 (ev : Nat → xK) (a0 : Nat) (n1 : Int32) (n2 : Int32) (w : xW) : Option xR := (xgA w a0 3 1).bind fun r1 => r1.bind fun o3 => (xlen w o3).bind fun i2 => if n2 < i2 then (xgA w a0 3 1).bind fun r4 => r4.bind fun o6 => (xaA w o6 n2).bind fun r5 => r5.bind fun o8 => (xgI w o8 5 0).bind fun i7 => (ev 71 0 [some (xI i7)] [] w).bind fun p9 => xrI p9.1 fun i10 => ev 26 6 [some (xA (some a0)), some (xI (n1 &&& i10)), some (xI (n2 + (1 : Int32)))] [] p9.2 else some (some (xI n1), w)
set_option maxRecDepth 100000 in
set_option maxHeartbeats 4000000 in
theorem r_X4_commonHomes_6 (ev : Nat → xK) (a0 : Nat) (n1 : Int32) (n2 : Int32) (w : xW) : xstp (xca ev 26) 26 (xgo (xca ev 26) 26 (ev 26) 18) 6 [some (xA (some a0)), some (xI n1), some (xI n2)] [] w = b_X4_commonHomes_6 ev a0 n1 n2 w := rfl
theorem e_X4_commonHomes_6 (a0 : Nat) (n1 : Int32) (n2 : Int32) (w : xW) : xev 26 6 [some (xA (some a0)), some (xI n1), some (xI n2)] [] w = b_X4_commonHomes_6 xev a0 n1 n2 w := (xev_go 26 18 6 [some (xA (some a0)), some (xI n1), some (xI n2)] [] w).trans (r_X4_commonHomes_6 xev a0 n1 n2 w)
def b_X5_init_0 (ev : Nat → xK) (a0 : Nat) (w : xW) : Option xR := (xnew w 0 (114 : Int32)).bind fun w1 => (xput w1 a0 4 0 (xA (some w.1))).bind fun w2 => some (none, w2)
set_option maxRecDepth 100000 in
set_option maxHeartbeats 4000000 in
theorem r_X5_init_0 (ev : Nat → xK) (a0 : Nat) (w : xW) : xstp (xca ev 27) 27 (xgo (xca ev 27) 27 (ev 27) 8) 0 [some (xA (some a0))] [] w = b_X5_init_0 ev a0 w := rfl
theorem e_X5_init_0 (a0 : Nat) (w : xW) : xev 27 0 [some (xA (some a0))] [] w = b_X5_init_0 xev a0 w := (xev_go 27 8 0 [some (xA (some a0))] [] w).trans (r_X5_init_0 xev a0 w)
def b_X5_add_0 (ev : Nat → xK) (a0 : Nat) (n1 : Int32) (n2 : Int32) (w : xW) : Option xR := (xgA w a0 4 0).bind fun r1 => r1.bind fun o3 => (xaI w o3 ((n1 * (6 : Int32)) + n2)).bind fun i2 => r1.bind fun o5 => (xsI w o5 ((n1 * (6 : Int32)) + n2) (i2 + (1 : Int32))).bind fun w4 => some (some (xI n2), w4)
set_option maxRecDepth 100000 in
set_option maxHeartbeats 4000000 in
theorem r_X5_add_0 (ev : Nat → xK) (a0 : Nat) (n1 : Int32) (n2 : Int32) (w : xW) : xstp (xca ev 28) 28 (xgo (xca ev 28) 28 (ev 28) 15) 0 [some (xA (some a0)), some (xI n1), some (xI n2)] [] w = b_X5_add_0 ev a0 n1 n2 w := rfl
theorem e_X5_add_0 (a0 : Nat) (n1 : Int32) (n2 : Int32) (w : xW) : xev 28 0 [some (xA (some a0)), some (xI n1), some (xI n2)] [] w = b_X5_add_0 xev a0 n1 n2 w := (xev_go 28 15 0 [some (xA (some a0)), some (xI n1), some (xI n2)] [] w).trans (r_X5_add_0 xev a0 n1 n2 w)
def b_X5_of_0 (ev : Nat → xK) (a0 : Nat) (n1 : Int32) (n2 : Int32) (w : xW) : Option xR := (xgA w a0 4 0).bind fun r1 => r1.bind fun o3 => (xaI w o3 ((n1 * (6 : Int32)) + n2)).bind fun i2 => some (some (xI i2), w)
set_option maxRecDepth 100000 in
set_option maxHeartbeats 4000000 in
theorem r_X5_of_0 (ev : Nat → xK) (a0 : Nat) (n1 : Int32) (n2 : Int32) (w : xW) : xstp (xca ev 29) 29 (xgo (xca ev 29) 29 (ev 29) 10) 0 [some (xA (some a0)), some (xI n1), some (xI n2)] [] w = b_X5_of_0 ev a0 n1 n2 w := rfl
theorem e_X5_of_0 (a0 : Nat) (n1 : Int32) (n2 : Int32) (w : xW) : xev 29 0 [some (xA (some a0)), some (xI n1), some (xI n2)] [] w = b_X5_of_0 xev a0 n1 n2 w := (xev_go 29 10 0 [some (xA (some a0)), some (xI n1), some (xI n2)] [] w).trans (r_X5_of_0 xev a0 n1 n2 w)
def b_X5_different_0 (ev : Nat → xK) (a0 : Nat) (w : xW) : Option xR := ev 30 4 [some (xA (some a0)), some (xI (0 : Int32)), some (xI (0 : Int32))] [] w
set_option maxRecDepth 100000 in
set_option maxHeartbeats 4000000 in
theorem r_X5_different_0 (ev : Nat → xK) (a0 : Nat) (w : xW) : xstp (xca ev 30) 30 (xgo (xca ev 30) 30 (ev 30) 6) 0 [some (xA (some a0)), none, none] [] w = b_X5_different_0 ev a0 w := rfl
theorem e_X5_different_0 (a0 : Nat) (w : xW) : xev 30 0 [some (xA (some a0)), none, none] [] w = b_X5_different_0 xev a0 w := (xev_go 30 6 0 [some (xA (some a0)), none, none] [] w).trans (r_X5_different_0 xev a0 w)
def b_X5_different_4 (ev : Nat → xK) (a0 : Nat) (n1 : Int32) (n2 : Int32) (w : xW) : Option xR := (xgA w a0 4 0).bind fun r1 => r1.bind fun o3 => (xlen w o3).bind fun i2 => if n2 < i2 then (xgA w a0 4 0).bind fun r4 => r4.bind fun o6 => (xaI w o6 n2).bind fun i5 => if 0 < i5 then ev 30 4 [some (xA (some a0)), some (xI (n1 + (1 : Int32))), some (xI (n2 + (1 : Int32)))] [] w else ev 30 4 [some (xA (some a0)), some (xI n1), some (xI (n2 + (1 : Int32)))] [] w else some (some (xI n1), w)
set_option maxRecDepth 100000 in
set_option maxHeartbeats 4000000 in
theorem r_X5_different_4 (ev : Nat → xK) (a0 : Nat) (n1 : Int32) (n2 : Int32) (w : xW) : xstp (xca ev 30) 30 (xgo (xca ev 30) 30 (ev 30) 15) 4 [some (xA (some a0)), some (xI n1), some (xI n2)] [] w = b_X5_different_4 ev a0 n1 n2 w := rfl
theorem e_X5_different_4 (a0 : Nat) (n1 : Int32) (n2 : Int32) (w : xW) : xev 30 4 [some (xA (some a0)), some (xI n1), some (xI n2)] [] w = b_X5_different_4 xev a0 n1 n2 w := (xev_go 30 15 4 [some (xA (some a0)), some (xI n1), some (xI n2)] [] w).trans (r_X5_different_4 xev a0 n1 n2 w)
def b_X6_init_0 (ev : Nat → xK) (a0 : Nat) (n1 : Int32) (v2 : Int64) (y4 : UInt64) (w : xW) : Option xR := (xput w a0 5 0 (xI n1)).bind fun w1 => (xput w1 a0 5 1 (xJ v2)).bind fun w2 => (xput w2 a0 5 2 (xD y4)).bind fun w3 => some (none, w3)
set_option maxRecDepth 100000 in
set_option maxHeartbeats 4000000 in
theorem r_X6_init_0 (ev : Nat → xK) (a0 : Nat) (n1 : Int32) (v2 : Int64) (y4 : UInt64) (w : xW) : xstp (xca ev 31) 31 (xgo (xca ev 31) 31 (ev 31) 13) 0 [some (xA (some a0)), some (xI n1), some (xJ v2), none, some (xD y4), none] [] w = b_X6_init_0 ev a0 n1 v2 y4 w := rfl
theorem e_X6_init_0 (a0 : Nat) (n1 : Int32) (v2 : Int64) (y4 : UInt64) (w : xW) : xev 31 0 [some (xA (some a0)), some (xI n1), some (xJ v2), none, some (xD y4), none] [] w = b_X6_init_0 xev a0 n1 v2 y4 w := (xev_go 31 13 0 [some (xA (some a0)), some (xI n1), some (xJ v2), none, some (xD y4), none] [] w).trans (r_X6_init_0 xev a0 n1 v2 y4 w)
def b_X6_number_0 (ev : Nat → xK) (n0 : Int32) (v1 : Int64) (w : xW) : Option xR := if n0 = Int32.ofInt 0 then (ev 31 0 [some (xA (some w.1)), some (xI n0), some (xJ (v1 &&& (1 : Int64))), none, some (xD (0 : UInt64)), none] [] (xpush w 3 (.inr (5, xdf 5)))).bind fun p1 => xrV p1.1 (some (some (xA (some w.1)), p1.2)) else if n0 = Int32.ofInt 1 then (ev 31 0 [some (xA (some w.1)), some (xI n0), some (xJ v1.toInt32.toInt8.toInt32.toInt64), none, some (xD (0 : UInt64)), none] [] (xpush w 3 (.inr (5, xdf 5)))).bind fun p2 => xrV p2.1 (some (some (xA (some w.1)), p2.2)) else if n0 = Int32.ofInt 2 then (ev 31 0 [some (xA (some w.1)), some (xI n0), some (xJ (((v1.toInt32.toUInt32 % 65536).toInt32).toInt64)), none, some (xD (0 : UInt64)), none] [] (xpush w 3 (.inr (5, xdf 5)))).bind fun p3 => xrV p3.1 (some (some (xA (some w.1)), p3.2)) else if n0 = Int32.ofInt 3 then (ev 31 0 [some (xA (some w.1)), some (xI n0), some (xJ v1.toInt32.toInt16.toInt32.toInt64), none, some (xD (0 : UInt64)), none] [] (xpush w 3 (.inr (5, xdf 5)))).bind fun p4 => xrV p4.1 (some (some (xA (some w.1)), p4.2)) else if n0 = Int32.ofInt 4 then (ev 31 0 [some (xA (some w.1)), some (xI n0), some (xJ v1.toInt32.toInt64), none, some (xD (0 : UInt64)), none] [] (xpush w 3 (.inr (5, xdf 5)))).bind fun p5 => xrV p5.1 (some (some (xA (some w.1)), p5.2)) else if n0 = Int32.ofInt 5 then (ev 31 0 [some (xA (some w.1)), some (xI (5 : Int32)), some (xJ v1), none, some (xD (0 : UInt64)), none] [] (xpush w 3 (.inr (5, xdf 5)))).bind fun p6 => xrV p6.1 (some (some (xA (some w.1)), p6.2)) else if n0 = Int32.ofInt 6 then xnF (FP.fdiv (FP.l2f v1) (1090519040 : UInt32)) fun z7 => xnD (FP.f2d z7) fun z8 => (ev 31 0 [some (xA (some w.1)), some (xI n0), some (xJ (0 : Int64)), none, some (xD z8), none] [] (xpush w 3 (.inr (5, xdf 5)))).bind fun p9 => xrV p9.1 (some (some (xA (some w.1)), p9.2)) else if n0 = Int32.ofInt 7 then xnD (FP.ddiv (FP.l2d v1) (4620693217682128896 : UInt64)) fun z10 => (ev 31 0 [some (xA (some w.1)), some (xI n0), some (xJ (0 : Int64)), none, some (xD z10), none] [] (xpush w 3 (.inr (5, xdf 5)))).bind fun p11 => xrV p11.1 (some (some (xA (some w.1)), p11.2)) else (ev 31 0 [some (xA (some w.1)), some (xI (5 : Int32)), some (xJ v1), none, some (xD (0 : UInt64)), none] [] (xpush w 3 (.inr (5, xdf 5)))).bind fun p12 => xrV p12.1 (some (some (xA (some w.1)), p12.2))
set_option maxRecDepth 100000 in
set_option maxHeartbeats 4000000 in
theorem r_X6_number_0 (ev : Nat → xK) (n0 : Int32) (v1 : Int64) (w : xW) : xstp (xca ev 32) 32 (xgo (xca ev 32) 32 (ev 32) 14) 0 [some (xI n0), some (xJ v1), none] [] w = b_X6_number_0 ev n0 v1 w := rfl
theorem e_X6_number_0 (n0 : Int32) (v1 : Int64) (w : xW) : xev 32 0 [some (xI n0), some (xJ v1), none] [] w = b_X6_number_0 xev n0 v1 w := (xev_go 32 14 0 [some (xI n0), some (xJ v1), none] [] w).trans (r_X6_number_0 xev n0 v1 w)
def b_X6_isStone_0 (ev : Nat → xK) (a0 : Nat) (w : xW) : Option xR := (xgI w a0 5 0).bind fun i1 => if i1 = (8 : Int32) then some (some (xI (1 : Int32)), w) else (xgI w a0 5 0).bind fun i2 => if i2 = (9 : Int32) then some (some (xI (1 : Int32)), w) else some (some (xI (0 : Int32)), w)
set_option maxRecDepth 100000 in
set_option maxHeartbeats 4000000 in
theorem r_X6_isStone_0 (ev : Nat → xK) (a0 : Nat) (w : xW) : xstp (xca ev 33) 33 (xgo (xca ev 33) 33 (ev 33) 12) 0 [some (xA (some a0))] [] w = b_X6_isStone_0 ev a0 w := rfl
theorem e_X6_isStone_0 (a0 : Nat) (w : xW) : xev 33 0 [some (xA (some a0))] [] w = b_X6_isStone_0 xev a0 w := (xev_go 33 12 0 [some (xA (some a0))] [] w).trans (r_X6_isStone_0 xev a0 w)
def b_X6_content_0 (ev : Nat → xK) (a0 : Nat) (w : xW) : Option xR := (xobj w a0 5).bind fun _ => (ev 33 0 [some (xA (some a0))] [] w).bind fun p1 => xrI p1.1 fun i2 => if i2 = 0 then (xgI p1.2 a0 5 0).bind fun i3 => if i3 = (10 : Int32) then some (some (xI (14 : Int32)), p1.2) else some (some (xI (15 : Int32)), p1.2) else some (some (xI (13 : Int32)), p1.2)
set_option maxRecDepth 100000 in
set_option maxHeartbeats 4000000 in
theorem r_X6_content_0 (ev : Nat → xK) (a0 : Nat) (w : xW) : xstp (xca ev 34) 34 (xgo (xca ev 34) 34 (ev 34) 11) 0 [some (xA (some a0))] [] w = b_X6_content_0 ev a0 w := rfl
theorem e_X6_content_0 (a0 : Nat) (w : xW) : xev 34 0 [some (xA (some a0))] [] w = b_X6_content_0 xev a0 w := (xev_go 34 11 0 [some (xA (some a0))] [] w).trans (r_X6_content_0 xev a0 w)
def b_X6_widened_0 (ev : Nat → xK) (a0 : Nat) (n1 : Int32) (w : xW) : Option xR := (xgI w a0 5 0).bind fun i1 => if n1 = i1 then some (some (xA (some a0)), w) else (xgI w a0 5 0).bind fun i2 => if i2 = (6 : Int32) then (xgD (xpush w 3 (.inr (5, xdf 5))) a0 5 2).bind fun d3 => (ev 31 0 [some (xA (some w.1)), some (xI n1), some (xJ (0 : Int64)), none, some (xD d3), none] [] (xpush w 3 (.inr (5, xdf 5)))).bind fun p4 => xrV p4.1 (some (some (xA (some w.1)), p4.2)) else if n1 = (6 : Int32) then (xgJ (xpush w 3 (.inr (5, xdf 5))) a0 5 1).bind fun j5 => xnD (FP.f2d (FP.l2f j5)) fun z6 => (ev 31 0 [some (xA (some w.1)), some (xI n1), some (xJ (0 : Int64)), none, some (xD z6), none] [] (xpush w 3 (.inr (5, xdf 5)))).bind fun p7 => xrV p7.1 (some (some (xA (some w.1)), p7.2)) else if n1 = (7 : Int32) then (xgJ (xpush w 3 (.inr (5, xdf 5))) a0 5 1).bind fun j8 => (ev 31 0 [some (xA (some w.1)), some (xI n1), some (xJ (0 : Int64)), none, some (xD (FP.l2d j8)), none] [] (xpush w 3 (.inr (5, xdf 5)))).bind fun p9 => xrV p9.1 (some (some (xA (some w.1)), p9.2)) else (xgJ (xpush w 3 (.inr (5, xdf 5))) a0 5 1).bind fun j10 => (ev 31 0 [some (xA (some w.1)), some (xI n1), some (xJ j10), none, some (xD (0 : UInt64)), none] [] (xpush w 3 (.inr (5, xdf 5)))).bind fun p11 => xrV p11.1 (some (some (xA (some w.1)), p11.2))
set_option maxRecDepth 100000 in
set_option maxHeartbeats 4000000 in
theorem r_X6_widened_0 (ev : Nat → xK) (a0 : Nat) (n1 : Int32) (w : xW) : xstp (xca ev 35) 35 (xgo (xca ev 35) 35 (ev 35) 25) 0 [some (xA (some a0)), some (xI n1)] [] w = b_X6_widened_0 ev a0 n1 w := rfl
theorem e_X6_widened_0 (a0 : Nat) (n1 : Int32) (w : xW) : xev 35 0 [some (xA (some a0)), some (xI n1)] [] w = b_X6_widened_0 xev a0 n1 w := (xev_go 35 25 0 [some (xA (some a0)), some (xI n1)] [] w).trans (r_X6_widened_0 xev a0 n1 w)
def b_X6_order_0 (ev : Nat → xK) (a0 : Nat) (a1 : Nat) (w : xW) : Option xR := (xgI w a0 5 0).bind fun i1 => if i1 = (6 : Int32) then (xgD w a0 5 2).bind fun d2 => (xgD w a1 5 2).bind fun d3 => if Op.cmpValue (FP.dcmp d2 d3) .l = 0 then some (some (xI (0 : Int32)), w) else (xgD w a0 5 2).bind fun d4 => (xgD w a1 5 2).bind fun d5 => if Op.cmpValue (FP.dcmp d4 d5) .g < 0 then some (some (xI (-1 : Int32)), w) else some (some (xI (1 : Int32)), w) else (xgI w a0 5 0).bind fun i6 => if i6 = (7 : Int32) then (xgD w a0 5 2).bind fun d7 => (xgD w a1 5 2).bind fun d8 => if Op.cmpValue (FP.dcmp d7 d8) .l = 0 then some (some (xI (0 : Int32)), w) else (xgD w a0 5 2).bind fun d9 => (xgD w a1 5 2).bind fun d10 => if Op.cmpValue (FP.dcmp d9 d10) .g < 0 then some (some (xI (-1 : Int32)), w) else some (some (xI (1 : Int32)), w) else (xgJ w a0 5 1).bind fun j11 => (xgJ w a1 5 1).bind fun j12 => (ev 147 0 [some (xJ j11), none, some (xJ j12), none] [] w).bind fun p13 => xrI p13.1 fun i14 => some (some (xI i14), p13.2)
set_option maxRecDepth 100000 in
set_option maxHeartbeats 4000000 in
theorem r_X6_order_0 (ev : Nat → xK) (a0 : Nat) (a1 : Nat) (w : xW) : xstp (xca ev 36) 36 (xgo (xca ev 36) 36 (ev 36) 24) 0 [some (xA (some a0)), some (xA (some a1))] [] w = b_X6_order_0 ev a0 a1 w := rfl
theorem e_X6_order_0 (a0 : Nat) (a1 : Nat) (w : xW) : xev 36 0 [some (xA (some a0)), some (xA (some a1))] [] w = b_X6_order_0 xev a0 a1 w := (xev_go 36 24 0 [some (xA (some a0)), some (xA (some a1))] [] w).trans (r_X6_order_0 xev a0 a1 w)
def b_X6_code_0 (ev : Nat → xK) (a0 : Nat) (w : xW) : Option xR := (xgI w a0 5 0).bind fun i1 => if i1 = (6 : Int32) then (xgD w a0 5 2).bind fun d2 => (ev 38 0 [some (xD d2), none, some (xI (23 : Int32)), some (xI (127 : Int32)), some (xI (31 : Int32)), none, none, none, none, none, none, none] [] w).bind fun p3 => xrJ p3.1 fun j4 => some (some (xJ j4), p3.2) else (xgI w a0 5 0).bind fun i5 => if i5 = (7 : Int32) then (xgD w a0 5 2).bind fun d6 => (ev 38 0 [some (xD d6), none, some (xI (52 : Int32)), some (xI (1023 : Int32)), some (xI (63 : Int32)), none, none, none, none, none, none, none] [] w).bind fun p7 => xrJ p7.1 fun j8 => some (some (xJ j8), p7.2) else (xgJ w a0 5 1).bind fun j9 => some (some (xJ j9), w)
set_option maxRecDepth 100000 in
set_option maxHeartbeats 4000000 in
theorem r_X6_code_0 (ev : Nat → xK) (a0 : Nat) (w : xW) : xstp (xca ev 37) 37 (xgo (xca ev 37) 37 (ev 37) 17) 0 [some (xA (some a0))] [] w = b_X6_code_0 ev a0 w := rfl
theorem e_X6_code_0 (a0 : Nat) (w : xW) : xev 37 0 [some (xA (some a0))] [] w = b_X6_code_0 xev a0 w := (xev_go 37 17 0 [some (xA (some a0))] [] w).trans (r_X6_code_0 xev a0 w)
def b_X6_bits_0 (ev : Nat → xK) (y0 : UInt64) (n2 : Int32) (n3 : Int32) (n4 : Int32) (w : xW) : Option xR := if Op.cmpValue (FP.dcmp y0 (0 : UInt64)) .l = 0 then some (some (xJ (0 : Int64)), w) else if Op.cmpValue (FP.dcmp y0 (0 : UInt64)) .g < 0 then ev 38 28 [some (xD y0), none, some (xI n2), none, some (xI n4), some (xD (FP.dneg y0)), none, some (xI n3), some (xI (0 : Int32)), none, none, none] [] w else ev 38 28 [some (xD y0), none, some (xI n2), none, some (xI n4), some (xD y0), none, some (xI n3), some (xI (0 : Int32)), none, none, none] [] w
set_option maxRecDepth 100000 in
set_option maxHeartbeats 4000000 in
theorem r_X6_bits_0 (ev : Nat → xK) (y0 : UInt64) (n2 : Int32) (n3 : Int32) (n4 : Int32) (w : xW) : xstp (xca ev 38) 38 (xgo (xca ev 38) 38 (ev 38) 18) 0 [some (xD y0), none, some (xI n2), some (xI n3), some (xI n4), none, none, none, none, none, none, none] [] w = b_X6_bits_0 ev y0 n2 n3 n4 w := rfl
theorem e_X6_bits_0 (y0 : UInt64) (n2 : Int32) (n3 : Int32) (n4 : Int32) (w : xW) : xev 38 0 [some (xD y0), none, some (xI n2), some (xI n3), some (xI n4), none, none, none, none, none, none, none] [] w = b_X6_bits_0 xev y0 n2 n3 n4 w := (xev_go 38 18 0 [some (xD y0), none, some (xI n2), some (xI n3), some (xI n4), none, none, none, none, none, none, none] [] w).trans (r_X6_bits_0 xev y0 n2 n3 n4 w)
def b_X6_bits_28 (ev : Nat → xK) (y0 : UInt64) (n2 : Int32) (n4 : Int32) (y5 : UInt64) (n7 : Int32) (n8 : Int32) (w : xW) : Option xR := if n8 < (1100 : Int32) then if Op.cmpValue (FP.dcmp y5 (4611686018427387904 : UInt64)) .l < 0 then ev 38 65 [some (xD y0), none, some (xI n2), none, some (xI n4), some (xD y5), none, some (xI n7), some (xI (0 : Int32)), none, none, none] [] w else xnD (FP.ddiv y5 (4611686018427387904 : UInt64)) fun z1 => ev 38 28 [some (xD y0), none, some (xI n2), none, some (xI n4), some (xD z1), none, some (xI (n7 + (1 : Int32))), some (xI (n8 + (1 : Int32))), none, none, none] [] w else ev 38 65 [some (xD y0), none, some (xI n2), none, some (xI n4), some (xD y5), none, some (xI n7), some (xI (0 : Int32)), none, none, none] [] w
set_option maxRecDepth 100000 in
set_option maxHeartbeats 4000000 in
theorem r_X6_bits_28 (ev : Nat → xK) (y0 : UInt64) (n2 : Int32) (n4 : Int32) (y5 : UInt64) (n7 : Int32) (n8 : Int32) (w : xW) : xstp (xca ev 38) 38 (xgo (xca ev 38) 38 (ev 38) 16) 28 [some (xD y0), none, some (xI n2), none, some (xI n4), some (xD y5), none, some (xI n7), some (xI n8), none, none, none] [] w = b_X6_bits_28 ev y0 n2 n4 y5 n7 n8 w := rfl
theorem e_X6_bits_28 (y0 : UInt64) (n2 : Int32) (n4 : Int32) (y5 : UInt64) (n7 : Int32) (n8 : Int32) (w : xW) : xev 38 28 [some (xD y0), none, some (xI n2), none, some (xI n4), some (xD y5), none, some (xI n7), some (xI n8), none, none, none] [] w = b_X6_bits_28 xev y0 n2 n4 y5 n7 n8 w := (xev_go 38 16 28 [some (xD y0), none, some (xI n2), none, some (xI n4), some (xD y5), none, some (xI n7), some (xI n8), none, none, none] [] w).trans (r_X6_bits_28 xev y0 n2 n4 y5 n7 n8 w)
def b_X6_bits_65 (ev : Nat → xK) (y0 : UInt64) (n2 : Int32) (n4 : Int32) (y5 : UInt64) (n7 : Int32) (n8 : Int32) (w : xW) : Option xR := if n8 < (1100 : Int32) then if Op.cmpValue (FP.dcmp y5 (4607182418800017408 : UInt64)) .g < 0 then xnD (FP.dmul y5 (4611686018427387904 : UInt64)) fun z1 => ev 38 65 [some (xD y0), none, some (xI n2), none, some (xI n4), some (xD z1), none, some (xI (n7 + (-1 : Int32))), some (xI (n8 + (1 : Int32))), none, none, none] [] w else xnD (FP.dsub y5 (4607182418800017408 : UInt64)) fun z2 => xnD (FP.dmul z2 (FP.l2d ((1 : Int64) <<< (n2.toInt64 &&& 63)))) fun z3 => if Op.cmpValue (FP.dcmp y0 (0 : UInt64)) .g < 0 then some (some (xJ (((n7.toInt64 <<< (n2.toInt64 &&& 63)) ||| (FP.d2l z3)) ||| ((-1 : Int64) <<< (n4.toInt64 &&& 63)))), w) else some (some (xJ ((n7.toInt64 <<< (n2.toInt64 &&& 63)) ||| (FP.d2l z3))), w) else xnD (FP.dsub y5 (4607182418800017408 : UInt64)) fun z4 => xnD (FP.dmul z4 (FP.l2d ((1 : Int64) <<< (n2.toInt64 &&& 63)))) fun z5 => if Op.cmpValue (FP.dcmp y0 (0 : UInt64)) .g < 0 then some (some (xJ (((n7.toInt64 <<< (n2.toInt64 &&& 63)) ||| (FP.d2l z5)) ||| ((-1 : Int64) <<< (n4.toInt64 &&& 63)))), w) else some (some (xJ ((n7.toInt64 <<< (n2.toInt64 &&& 63)) ||| (FP.d2l z5))), w)
set_option maxRecDepth 100000 in
set_option maxHeartbeats 4000000 in
theorem r_X6_bits_65 (ev : Nat → xK) (y0 : UInt64) (n2 : Int32) (n4 : Int32) (y5 : UInt64) (n7 : Int32) (n8 : Int32) (w : xW) : xstp (xca ev 38) 38 (xgo (xca ev 38) 38 (ev 38) 36) 65 [some (xD y0), none, some (xI n2), none, some (xI n4), some (xD y5), none, some (xI n7), some (xI n8), none, none, none] [] w = b_X6_bits_65 ev y0 n2 n4 y5 n7 n8 w := rfl
theorem e_X6_bits_65 (y0 : UInt64) (n2 : Int32) (n4 : Int32) (y5 : UInt64) (n7 : Int32) (n8 : Int32) (w : xW) : xev 38 65 [some (xD y0), none, some (xI n2), none, some (xI n4), some (xD y5), none, some (xI n7), some (xI n8), none, none, none] [] w = b_X6_bits_65 xev y0 n2 n4 y5 n7 n8 w := (xev_go 38 36 65 [some (xD y0), none, some (xI n2), none, some (xI n4), some (xD y5), none, some (xI n7), some (xI n8), none, none, none] [] w).trans (r_X6_bits_65 xev y0 n2 n4 y5 n7 n8 w)
def b_X7_init_0 (ev : Nat → xK) (a0 : Nat) (w : xW) : Option xR := (ev 0 0 [some (xA (some w.1)), none, none] [] (xpush w 1 (.inr (0, xdf 0)))).bind fun p1 => xrV p1.1 ((xput p1.2 a0 6 0 (xA (some w.1))).bind fun w2 => (xnew w2 6 (2 : Int32)).bind fun w3 => (xput w3 a0 6 1 (xA (some w2.1))).bind fun w4 => (ev 31 0 [some (xA (some w4.1)), some (xI (4 : Int32)), some (xJ (0 : Int64)), none, some (xD (0 : UInt64)), none] [] (xpush w4 3 (.inr (5, xdf 5)))).bind fun p5 => xrV p5.1 ((xput p5.2 a0 6 2 (xA (some w4.1))).bind fun w6 => (ev 31 0 [some (xA (some w6.1)), some (xI (11 : Int32)), some (xJ (0 : Int64)), none, some (xD (0 : UInt64)), none] [] (xpush w6 3 (.inr (5, xdf 5)))).bind fun p7 => xrV p7.1 ((xput p7.2 a0 6 3 (xA (some w6.1))).bind fun w8 => (xput w8 a0 6 4 (xA none)).bind fun w9 => (ev 5 0 [some (xA (some w9.1))] [] (xpush w9 3 (.inr (1, xdf 1)))).bind fun p10 => xrV p10.1 ((xput p10.2 a0 6 5 (xA (some w9.1))).bind fun w11 => (ev 5 0 [some (xA (some w11.1))] [] (xpush w11 3 (.inr (1, xdf 1)))).bind fun p12 => xrV p12.1 ((xput p12.2 a0 6 6 (xA (some w11.1))).bind fun w13 => (ev 11 0 [some (xA (some w13.1))] [] (xpush w13 3 (.inr (2, xdf 2)))).bind fun p14 => xrV p14.1 ((xput p14.2 a0 6 7 (xA (some w13.1))).bind fun w15 => (ev 11 0 [some (xA (some w15.1))] [] (xpush w15 3 (.inr (2, xdf 2)))).bind fun p16 => xrV p16.1 ((xput p16.2 a0 6 8 (xA (some w15.1))).bind fun w17 => (xnew w17 0 (60 : Int32)).bind fun w18 => (xput w18 a0 6 9 (xA (some w17.1))).bind fun w19 => (xput w19 a0 6 10 (xI (0 : Int32))).bind fun w20 => (ev 27 0 [some (xA (some w20.1))] [] (xpush w20 1 (.inr (4, xdf 4)))).bind fun p21 => xrV p21.1 ((xput p21.2 a0 6 11 (xA (some w20.1))).bind fun w22 => (xput w22 a0 6 12 (xI (-6 : Int32))).bind fun w23 => some (none, w23)))))))))
set_option maxRecDepth 100000 in
set_option maxHeartbeats 4000000 in
theorem r_X7_init_0 (ev : Nat → xK) (a0 : Nat) (w : xW) : xstp (xca ev 39) 39 (xgo (xca ev 39) 39 (ev 39) 67) 0 [some (xA (some a0))] [] w = b_X7_init_0 ev a0 w := rfl
theorem e_X7_init_0 (a0 : Nat) (w : xW) : xev 39 0 [some (xA (some a0))] [] w = b_X7_init_0 xev a0 w := (xev_go 39 67 0 [some (xA (some a0))] [] w).trans (r_X7_init_0 xev a0 w)
def b_X7_open_0 (ev : Nat → xK) (a0 : Nat) (n1 : Int32) (n2 : Int32) (n3 : Int32) (w : xW) : Option xR := (ev 66 0 [some (xI n1)] [] w).bind fun p1 => xrI p1.1 fun i2 => if i2 = 0 then some (some (xI (-1 : Int32)), p1.2) else (ev 70 0 [some (xI n2), some (xI n3)] [] p1.2).bind fun p3 => xrI p3.1 fun i4 => if i4 = 0 then some (some (xI (-2 : Int32)), p3.2) else if n2 = (13 : Int32) then (xgI p3.2 a0 6 10).bind fun i5 => if i5 < (60 : Int32) then (xgA p3.2 a0 6 0).bind fun r6 => (xobj p3.2 a0 6).bind fun _ => (ev 73 0 [some (xA (some a0)), some (xI n2), some (xI n3)] [] p3.2).bind fun p7 => xrA p7.1 fun r8 => r6.bind fun o10 => (xobj p7.2 o10 0).bind fun _ => (ev 2 0 [some (xA r6), some (xI n1), some (xA r8)] [] p7.2).bind fun p9 => xrV p9.1 (some (some (xI (0 : Int32)), p9.2)) else some (some (xI (-4 : Int32)), p3.2) else (xgA p3.2 a0 6 0).bind fun r11 => (xobj p3.2 a0 6).bind fun _ => (ev 73 0 [some (xA (some a0)), some (xI n2), some (xI n3)] [] p3.2).bind fun p12 => xrA p12.1 fun r13 => r11.bind fun o15 => (xobj p12.2 o15 0).bind fun _ => (ev 2 0 [some (xA r11), some (xI n1), some (xA r13)] [] p12.2).bind fun p14 => xrV p14.1 (some (some (xI (0 : Int32)), p14.2))
set_option maxRecDepth 100000 in
set_option maxHeartbeats 4000000 in
theorem r_X7_open_0 (ev : Nat → xK) (a0 : Nat) (n1 : Int32) (n2 : Int32) (n3 : Int32) (w : xW) : xstp (xca ev 40) 40 (xgo (xca ev 40) 40 (ev 40) 25) 0 [some (xA (some a0)), some (xI n1), some (xI n2), some (xI n3)] [] w = b_X7_open_0 ev a0 n1 n2 n3 w := rfl
theorem e_X7_open_0 (a0 : Nat) (n1 : Int32) (n2 : Int32) (n3 : Int32) (w : xW) : xev 40 0 [some (xA (some a0)), some (xI n1), some (xI n2), some (xI n3)] [] w = b_X7_open_0 xev a0 n1 n2 n3 w := (xev_go 40 25 0 [some (xA (some a0)), some (xI n1), some (xI n2), some (xI n3)] [] w).trans (r_X7_open_0 xev a0 n1 n2 n3 w)
def b_X7_hang_0 (ev : Nat → xK) (a0 : Nat) (n1 : Int32) (n2 : Int32) (n3 : Int32) (w : xW) : Option xR := (ev 66 0 [some (xI n1)] [] w).bind fun p1 => xrI p1.1 fun i2 => if i2 = 0 then some (some (xI (-1 : Int32)), p1.2) else (ev 66 0 [some (xI n2)] [] p1.2).bind fun p3 => xrI p3.1 fun i4 => if i4 = 0 then some (some (xI (-1 : Int32)), p3.2) else if n3 = 0 then (xgA p3.2 a0 6 0).bind fun r5 => r5.bind fun o7 => (xobj p3.2 o7 0).bind fun _ => (ev 1 0 [some (xA r5), some (xI n1)] [] p3.2).bind fun p6 => xrA p6.1 fun r8 => if n3 = 0 then (xgA p6.2 a0 6 0).bind fun r9 => r9.bind fun o11 => (xobj p6.2 o11 0).bind fun _ => (ev 2 0 [some (xA r9), some (xI n2), some (xA r8)] [] p6.2).bind fun p10 => xrV p10.1 (some (some (xI (0 : Int32)), p10.2)) else if r8 = none then (ev 76 0 [some (xA r8)] [] p6.2).bind fun p13 => xrI p13.1 fun i14 => some (some (xI i14), p13.2) else r8.bind fun o15 => (xcno p6.2 o15).bind fun c12 => if c12 = 3 then r8.bind fun o16 => (xobj p6.2 o16 3).bind fun _ => (xgA p6.2 a0 6 0).bind fun r17 => r8.bind fun o19 => (xobj p6.2 o19 3).bind fun _ => (ev 19 0 [some (xA r8)] [] p6.2).bind fun p18 => xrI p18.1 fun i20 => r8.bind fun o22 => (xobj p18.2 o22 3).bind fun _ => (ev 24 0 [some (xA r8), some (xI (0 : Int32)), some (xI i20), none, none] [] p18.2).bind fun p21 => xrA p21.1 fun r23 => r17.bind fun o25 => (xobj p21.2 o25 0).bind fun _ => (ev 2 0 [some (xA r17), some (xI n2), some (xA r23)] [] p21.2).bind fun p24 => xrV p24.1 ((ev 76 0 [some (xA r8)] [] p24.2).bind fun p26 => xrI p26.1 fun i27 => some (some (xI i27), p26.2)) else if c12 = 5 then (ev 76 0 [some (xA r8)] [] p6.2).bind fun p28 => xrI p28.1 fun i29 => some (some (xI i29), p28.2) else none else if n3 = (1 : Int32) then (xgA p3.2 a0 6 0).bind fun r30 => r30.bind fun o32 => (xobj p3.2 o32 0).bind fun _ => (ev 1 0 [some (xA r30), some (xI n1)] [] p3.2).bind fun p31 => xrA p31.1 fun r33 => if n3 = 0 then (xgA p31.2 a0 6 0).bind fun r34 => r34.bind fun o36 => (xobj p31.2 o36 0).bind fun _ => (ev 2 0 [some (xA r34), some (xI n2), some (xA r33)] [] p31.2).bind fun p35 => xrV p35.1 (some (some (xI (0 : Int32)), p35.2)) else if r33 = none then (ev 76 0 [some (xA r33)] [] p31.2).bind fun p38 => xrI p38.1 fun i39 => some (some (xI i39), p38.2) else r33.bind fun o40 => (xcno p31.2 o40).bind fun c37 => if c37 = 3 then r33.bind fun o41 => (xobj p31.2 o41 3).bind fun _ => (xgA p31.2 a0 6 0).bind fun r42 => r33.bind fun o44 => (xobj p31.2 o44 3).bind fun _ => (ev 19 0 [some (xA r33)] [] p31.2).bind fun p43 => xrI p43.1 fun i45 => r33.bind fun o47 => (xobj p43.2 o47 3).bind fun _ => (ev 24 0 [some (xA r33), some (xI (0 : Int32)), some (xI i45), none, none] [] p43.2).bind fun p46 => xrA p46.1 fun r48 => r42.bind fun o50 => (xobj p46.2 o50 0).bind fun _ => (ev 2 0 [some (xA r42), some (xI n2), some (xA r48)] [] p46.2).bind fun p49 => xrV p49.1 ((ev 76 0 [some (xA r33)] [] p49.2).bind fun p51 => xrI p51.1 fun i52 => some (some (xI i52), p51.2)) else if c37 = 5 then (ev 76 0 [some (xA r33)] [] p31.2).bind fun p53 => xrI p53.1 fun i54 => some (some (xI i54), p53.2) else none else some (some (xI (-2 : Int32)), p3.2)
set_option maxRecDepth 100000 in
set_option maxHeartbeats 4000000 in
theorem r_X7_hang_0 (ev : Nat → xK) (a0 : Nat) (n1 : Int32) (n2 : Int32) (n3 : Int32) (w : xW) : xstp (xca ev 41) 41 (xgo (xca ev 41) 41 (ev 41) 37) 0 [some (xA (some a0)), some (xI n1), some (xI n2), some (xI n3), none, none] [] w = b_X7_hang_0 ev a0 n1 n2 n3 w := rfl
theorem e_X7_hang_0 (a0 : Nat) (n1 : Int32) (n2 : Int32) (n3 : Int32) (w : xW) : xev 41 0 [some (xA (some a0)), some (xI n1), some (xI n2), some (xI n3), none, none] [] w = b_X7_hang_0 xev a0 n1 n2 n3 w := (xev_go 41 37 0 [some (xA (some a0)), some (xI n1), some (xI n2), some (xI n3), none, none] [] w).trans (r_X7_hang_0 xev a0 n1 n2 n3 w)
def b_X7_same_0 (ev : Nat → xK) (a0 : Nat) (n1 : Int32) (n2 : Int32) (w : xW) : Option xR := (ev 66 0 [some (xI n1)] [] w).bind fun p1 => xrI p1.1 fun i2 => if i2 = 0 then some (some (xI (-1 : Int32)), p1.2) else (ev 66 0 [some (xI n2)] [] p1.2).bind fun p3 => xrI p3.1 fun i4 => if i4 = 0 then some (some (xI (-1 : Int32)), p3.2) else (xgA p3.2 a0 6 0).bind fun r5 => r5.bind fun o7 => (xobj p3.2 o7 0).bind fun _ => (ev 1 0 [some (xA r5), some (xI n1)] [] p3.2).bind fun p6 => xrA p6.1 fun r8 => if r8 = none then some (some (xI (0 : Int32)), p6.2) else r8.bind fun o10 => (xcno p6.2 o10).bind fun c9 => if c9 = 3 then (xgA p6.2 a0 6 0).bind fun r11 => r11.bind fun o13 => (xobj p6.2 o13 0).bind fun _ => (ev 1 0 [some (xA r11), some (xI n2)] [] p6.2).bind fun p12 => xrA p12.1 fun r14 => if r8 = r14 then some (some (xI (1 : Int32)), p12.2) else some (some (xI (0 : Int32)), p12.2) else if c9 = 5 then some (some (xI (0 : Int32)), p6.2) else none
set_option maxRecDepth 100000 in
set_option maxHeartbeats 4000000 in
theorem r_X7_same_0 (ev : Nat → xK) (a0 : Nat) (n1 : Int32) (n2 : Int32) (w : xW) : xstp (xca ev 42) 42 (xgo (xca ev 42) 42 (ev 42) 24) 0 [some (xA (some a0)), some (xI n1), some (xI n2), none] [] w = b_X7_same_0 ev a0 n1 n2 w := rfl
theorem e_X7_same_0 (a0 : Nat) (n1 : Int32) (n2 : Int32) (w : xW) : xev 42 0 [some (xA (some a0)), some (xI n1), some (xI n2), none] [] w = b_X7_same_0 xev a0 n1 n2 w := (xev_go 42 24 0 [some (xA (some a0)), some (xI n1), some (xI n2), none] [] w).trans (r_X7_same_0 xev a0 n1 n2 w)
def b_X7_length_0 (ev : Nat → xK) (a0 : Nat) (n1 : Int32) (w : xW) : Option xR := (ev 66 0 [some (xI n1)] [] w).bind fun p1 => xrI p1.1 fun i2 => if i2 = 0 then some (some (xI (-1 : Int32)), p1.2) else (xgA p1.2 a0 6 0).bind fun r3 => r3.bind fun o5 => (xobj p1.2 o5 0).bind fun _ => (ev 1 0 [some (xA r3), some (xI n1)] [] p1.2).bind fun p4 => xrA p4.1 fun r6 => (xgA p4.2 a0 6 11).bind fun r7 => (ev 76 0 [some (xA r6)] [] p4.2).bind fun p8 => xrI p8.1 fun i9 => r7.bind fun o11 => (xobj p8.2 o11 4).bind fun _ => (ev 28 0 [some (xA r7), some (xI (18 : Int32)), some (xI i9)] [] p8.2).bind fun p10 => xrI p10.1 fun i12 => if r6 = none then some (some (xI ((-10 : Int32) - i12)), p10.2) else r6.bind fun o14 => (xcno p10.2 o14).bind fun c13 => if c13 = 3 then r6.bind fun o15 => (xobj p10.2 o15 3).bind fun _ => r6.bind fun o17 => (xobj p10.2 o17 3).bind fun _ => (ev 19 0 [some (xA r6)] [] p10.2).bind fun p16 => xrI p16.1 fun i18 => some (some (xI i18), p16.2) else if c13 = 5 then some (some (xI ((-10 : Int32) - i12)), p10.2) else none
set_option maxRecDepth 100000 in
set_option maxHeartbeats 4000000 in
theorem r_X7_length_0 (ev : Nat → xK) (a0 : Nat) (n1 : Int32) (w : xW) : xstp (xca ev 43) 43 (xgo (xca ev 43) 43 (ev 43) 26) 0 [some (xA (some a0)), some (xI n1), none, none, none] [] w = b_X7_length_0 ev a0 n1 w := rfl
theorem e_X7_length_0 (a0 : Nat) (n1 : Int32) (w : xW) : xev 43 0 [some (xA (some a0)), some (xI n1), none, none, none] [] w = b_X7_length_0 xev a0 n1 w := (xev_go 43 26 0 [some (xA (some a0)), some (xI n1), none, none, none] [] w).trans (r_X7_length_0 xev a0 n1 w)
def b_X7_read_0 (ev : Nat → xK) (a0 : Nat) (n1 : Int32) (n2 : Int32) (n3 : Int32) (w : xW) : Option xR := (ev 66 0 [some (xI n1)] [] w).bind fun p1 => xrI p1.1 fun i2 => if i2 = 0 then some (some (xI (-1 : Int32)), p1.2) else (ev 67 0 [some (xI n3)] [] p1.2).bind fun p3 => xrI p3.1 fun i4 => if i4 = 0 then some (some (xI (-2 : Int32)), p3.2) else (xobj p3.2 a0 6).bind fun _ => (ev 78 0 [some (xA (some a0)), some (xI n1), some (xI n2), some (xI n3), none, none, none] [] p3.2).bind fun p5 => xrI p5.1 fun i6 => some (some (xI i6), p5.2)
set_option maxRecDepth 100000 in
set_option maxHeartbeats 4000000 in
theorem r_X7_read_0 (ev : Nat → xK) (a0 : Nat) (n1 : Int32) (n2 : Int32) (n3 : Int32) (w : xW) : xstp (xca ev 44) 44 (xgo (xca ev 44) 44 (ev 44) 14) 0 [some (xA (some a0)), some (xI n1), some (xI n2), some (xI n3)] [] w = b_X7_read_0 ev a0 n1 n2 n3 w := rfl
theorem e_X7_read_0 (a0 : Nat) (n1 : Int32) (n2 : Int32) (n3 : Int32) (w : xW) : xev 44 0 [some (xA (some a0)), some (xI n1), some (xI n2), some (xI n3)] [] w = b_X7_read_0 xev a0 n1 n2 n3 w := (xev_go 44 14 0 [some (xA (some a0)), some (xI n1), some (xI n2), some (xI n3)] [] w).trans (r_X7_read_0 xev a0 n1 n2 n3 w)
def b_X7_glass_0 (ev : Nat → xK) (a0 : Nat) (w : xW) : Option xR := (xgA w a0 6 2).bind fun r1 => r1.bind fun o3 => (xobj w o3 5).bind fun _ => (ev 37 0 [some (xA r1)] [] w).bind fun p2 => xrJ p2.1 fun j4 => some (some (xJ j4), p2.2)
set_option maxRecDepth 100000 in
set_option maxHeartbeats 4000000 in
theorem r_X7_glass_0 (ev : Nat → xK) (a0 : Nat) (w : xW) : xstp (xca ev 45) 45 (xgo (xca ev 45) 45 (ev 45) 5) 0 [some (xA (some a0))] [] w = b_X7_glass_0 ev a0 w := rfl
theorem e_X7_glass_0 (a0 : Nat) (w : xW) : xev 45 0 [some (xA (some a0))] [] w = b_X7_glass_0 xev a0 w := (xev_go 45 5 0 [some (xA (some a0))] [] w).trans (r_X7_glass_0 xev a0 w)
def b_X7_write_0 (ev : Nat → xK) (a0 : Nat) (n1 : Int32) (n2 : Int32) (n3 : Int32) (v4 : Int64) (w : xW) : Option xR := (ev 66 0 [some (xI n1)] [] w).bind fun p1 => xrI p1.1 fun i2 => if i2 = 0 then some (some (xI (-1 : Int32)), p1.2) else (ev 67 0 [some (xI n3)] [] p1.2).bind fun p3 => xrI p3.1 fun i4 => if i4 = 0 then some (some (xI (-2 : Int32)), p3.2) else (ev 32 0 [some (xI n3), some (xJ v4), none] [] p3.2).bind fun p5 => xrA p5.1 fun r6 => (xobj p5.2 a0 6).bind fun _ => (ev 79 0 [some (xA (some a0)), some (xI n1), some (xI n2), some (xA r6), none, none, none] [] p5.2).bind fun p7 => xrI p7.1 fun i8 => some (some (xI i8), p7.2)
set_option maxRecDepth 100000 in
set_option maxHeartbeats 4000000 in
theorem r_X7_write_0 (ev : Nat → xK) (a0 : Nat) (n1 : Int32) (n2 : Int32) (n3 : Int32) (v4 : Int64) (w : xW) : xstp (xca ev 46) 46 (xgo (xca ev 46) 46 (ev 46) 16) 0 [some (xA (some a0)), some (xI n1), some (xI n2), some (xI n3), some (xJ v4), none] [] w = b_X7_write_0 ev a0 n1 n2 n3 v4 w := rfl
theorem e_X7_write_0 (a0 : Nat) (n1 : Int32) (n2 : Int32) (n3 : Int32) (v4 : Int64) (w : xW) : xev 46 0 [some (xA (some a0)), some (xI n1), some (xI n2), some (xI n3), some (xJ v4), none] [] w = b_X7_write_0 xev a0 n1 n2 n3 v4 w := (xev_go 46 16 0 [some (xA (some a0)), some (xI n1), some (xI n2), some (xI n3), some (xJ v4), none] [] w).trans (r_X7_write_0 xev a0 n1 n2 n3 v4 w)
def b_X7_take_0 (ev : Nat → xK) (a0 : Nat) (n1 : Int32) (n2 : Int32) (w : xW) : Option xR := (ev 66 0 [some (xI n1)] [] w).bind fun p1 => xrI p1.1 fun i2 => if i2 = 0 then some (some (xI (-1 : Int32)), p1.2) else (xobj p1.2 a0 6).bind fun _ => (ev 80 0 [some (xA (some a0)), some (xI n1), some (xI n2), none, none, none] [] p1.2).bind fun p3 => xrI p3.1 fun i4 => some (some (xI i4), p3.2)
set_option maxRecDepth 100000 in
set_option maxHeartbeats 4000000 in
theorem r_X7_take_0 (ev : Nat → xK) (a0 : Nat) (n1 : Int32) (n2 : Int32) (w : xW) : xstp (xca ev 47) 47 (xgo (xca ev 47) 47 (ev 47) 10) 0 [some (xA (some a0)), some (xI n1), some (xI n2)] [] w = b_X7_take_0 ev a0 n1 n2 w := rfl
theorem e_X7_take_0 (a0 : Nat) (n1 : Int32) (n2 : Int32) (w : xW) : xev 47 0 [some (xA (some a0)), some (xI n1), some (xI n2)] [] w = b_X7_take_0 xev a0 n1 n2 w := (xev_go 47 10 0 [some (xA (some a0)), some (xI n1), some (xI n2)] [] w).trans (r_X7_take_0 xev a0 n1 n2 w)
def b_X7_lay_0 (ev : Nat → xK) (a0 : Nat) (n1 : Int32) (n2 : Int32) (w : xW) : Option xR := (ev 66 0 [some (xI n1)] [] w).bind fun p1 => xrI p1.1 fun i2 => if i2 = 0 then some (some (xI (-1 : Int32)), p1.2) else (xobj p1.2 a0 6).bind fun _ => (ev 81 0 [some (xA (some a0)), some (xI n1), some (xI n2), none, none, none] [] p1.2).bind fun p3 => xrI p3.1 fun i4 => some (some (xI i4), p3.2)
set_option maxRecDepth 100000 in
set_option maxHeartbeats 4000000 in
theorem r_X7_lay_0 (ev : Nat → xK) (a0 : Nat) (n1 : Int32) (n2 : Int32) (w : xW) : xstp (xca ev 48) 48 (xgo (xca ev 48) 48 (ev 48) 10) 0 [some (xA (some a0)), some (xI n1), some (xI n2)] [] w = b_X7_lay_0 ev a0 n1 n2 w := rfl
theorem e_X7_lay_0 (a0 : Nat) (n1 : Int32) (n2 : Int32) (w : xW) : xev 48 0 [some (xA (some a0)), some (xI n1), some (xI n2)] [] w = b_X7_lay_0 xev a0 n1 n2 w := (xev_go 48 10 0 [some (xA (some a0)), some (xI n1), some (xI n2)] [] w).trans (r_X7_lay_0 xev a0 n1 n2 w)
def b_X7_hand_0 (ev : Nat → xK) (a0 : Nat) (n1 : Int32) (v2 : Int64) (w : xW) : Option xR := if n1 < 0 then some (some (xI (-2 : Int32)), w) else if (11 : Int32) < n1 then some (some (xI (-2 : Int32)), w) else if n1 = (10 : Int32) then (ev 68 0 [some (xJ v2), none] [] w).bind fun p1 => xrI p1.1 fun i2 => if i2 = 0 then some (some (xI (-2 : Int32)), p1.2) else if n1 = (8 : Int32) then (xgI p1.2 a0 6 10).bind fun i3 => if i3 < (60 : Int32) then (xobj p1.2 a0 6).bind fun _ => (ev 74 0 [some (xA (some a0)), some (xI n1), some (xI v2.toInt32)] [] p1.2).bind fun p4 => xrA p4.1 fun r5 => (xput p4.2 a0 6 3 (xA r5)).bind fun w6 => some (some (xI (0 : Int32)), w6) else some (some (xI (-4 : Int32)), p1.2) else if n1 = (9 : Int32) then (xgI p1.2 a0 6 10).bind fun i7 => if i7 < (60 : Int32) then (xobj p1.2 a0 6).bind fun _ => (ev 74 0 [some (xA (some a0)), some (xI n1), some (xI v2.toInt32)] [] p1.2).bind fun p8 => xrA p8.1 fun r9 => (xput p8.2 a0 6 3 (xA r9)).bind fun w10 => some (some (xI (0 : Int32)), w10) else some (some (xI (-4 : Int32)), p1.2) else (ev 67 0 [some (xI n1)] [] p1.2).bind fun p11 => xrI p11.1 fun i12 => if i12 = 0 then if n1 = (10 : Int32) then (ev 31 0 [some (xA (some p11.2.1)), some (xI n1), some (xJ v2), none, some (xD (0 : UInt64)), none] [] (xpush p11.2 3 (.inr (5, xdf 5)))).bind fun p13 => xrV p13.1 ((xput p13.2 a0 6 3 (xA (some p11.2.1))).bind fun w14 => some (some (xI (0 : Int32)), w14)) else (ev 31 0 [some (xA (some p11.2.1)), some (xI n1), some (xJ (0 : Int64)), none, some (xD (0 : UInt64)), none] [] (xpush p11.2 3 (.inr (5, xdf 5)))).bind fun p15 => xrV p15.1 ((xput p15.2 a0 6 3 (xA (some p11.2.1))).bind fun w16 => some (some (xI (0 : Int32)), w16)) else (ev 32 0 [some (xI n1), some (xJ v2), none] [] p11.2).bind fun p17 => xrA p17.1 fun r18 => (xput p17.2 a0 6 3 (xA r18)).bind fun w19 => some (some (xI (0 : Int32)), w19) else if n1 = (8 : Int32) then (xgI w a0 6 10).bind fun i20 => if i20 < (60 : Int32) then (xobj w a0 6).bind fun _ => (ev 74 0 [some (xA (some a0)), some (xI n1), some (xI v2.toInt32)] [] w).bind fun p21 => xrA p21.1 fun r22 => (xput p21.2 a0 6 3 (xA r22)).bind fun w23 => some (some (xI (0 : Int32)), w23) else some (some (xI (-4 : Int32)), w) else if n1 = (9 : Int32) then (xgI w a0 6 10).bind fun i24 => if i24 < (60 : Int32) then (xobj w a0 6).bind fun _ => (ev 74 0 [some (xA (some a0)), some (xI n1), some (xI v2.toInt32)] [] w).bind fun p25 => xrA p25.1 fun r26 => (xput p25.2 a0 6 3 (xA r26)).bind fun w27 => some (some (xI (0 : Int32)), w27) else some (some (xI (-4 : Int32)), w) else (ev 67 0 [some (xI n1)] [] w).bind fun p28 => xrI p28.1 fun i29 => if i29 = 0 then if n1 = (10 : Int32) then (ev 31 0 [some (xA (some p28.2.1)), some (xI n1), some (xJ v2), none, some (xD (0 : UInt64)), none] [] (xpush p28.2 3 (.inr (5, xdf 5)))).bind fun p30 => xrV p30.1 ((xput p30.2 a0 6 3 (xA (some p28.2.1))).bind fun w31 => some (some (xI (0 : Int32)), w31)) else (ev 31 0 [some (xA (some p28.2.1)), some (xI n1), some (xJ (0 : Int64)), none, some (xD (0 : UInt64)), none] [] (xpush p28.2 3 (.inr (5, xdf 5)))).bind fun p32 => xrV p32.1 ((xput p32.2 a0 6 3 (xA (some p28.2.1))).bind fun w33 => some (some (xI (0 : Int32)), w33)) else (ev 32 0 [some (xI n1), some (xJ v2), none] [] p28.2).bind fun p34 => xrA p34.1 fun r35 => (xput p34.2 a0 6 3 (xA r35)).bind fun w36 => some (some (xI (0 : Int32)), w36)
set_option maxRecDepth 100000 in
set_option maxHeartbeats 4000000 in
theorem r_X7_hand_0 (ev : Nat → xK) (a0 : Nat) (n1 : Int32) (v2 : Int64) (w : xW) : xstp (xca ev 49) 49 (xgo (xca ev 49) 49 (ev 49) 41) 0 [some (xA (some a0)), some (xI n1), some (xJ v2), none, none] [] w = b_X7_hand_0 ev a0 n1 v2 w := rfl
theorem e_X7_hand_0 (a0 : Nat) (n1 : Int32) (v2 : Int64) (w : xW) : xev 49 0 [some (xA (some a0)), some (xI n1), some (xJ v2), none, none] [] w = b_X7_hand_0 xev a0 n1 v2 w := (xev_go 49 41 0 [some (xA (some a0)), some (xI n1), some (xJ v2), none, none] [] w).trans (r_X7_hand_0 xev a0 n1 v2 w)
def b_X7_inHand_0 (ev : Nat → xK) (a0 : Nat) (n1 : Int32) (w : xW) : Option xR := if n1 = Int32.ofInt 0 then (xgA w a0 6 3).bind fun r1 => r1.bind fun o3 => (xgI w o3 5 0).bind fun i2 => some (some (xJ i2.toInt64), w) else if n1 = Int32.ofInt 1 then (xgA w a0 6 3).bind fun r4 => r4.bind fun o6 => (xobj w o6 5).bind fun _ => (ev 33 0 [some (xA r4)] [] w).bind fun p5 => xrI p5.1 fun i7 => if i7 = 0 then (xgA p5.2 a0 6 3).bind fun r8 => r8.bind fun o10 => (xobj p5.2 o10 5).bind fun _ => (ev 37 0 [some (xA r8)] [] p5.2).bind fun p9 => xrJ p9.1 fun j11 => some (some (xJ j11), p9.2) else (xgA p5.2 a0 6 3).bind fun r12 => (xobj p5.2 a0 6).bind fun _ => (ev 75 0 [some (xA (some a0)), some (xA r12), none] [] p5.2).bind fun p13 => xrI p13.1 fun i14 => some (some (xJ i14.toInt64), p13.2) else if n1 = Int32.ofInt 2 then (xgA w a0 6 3).bind fun r15 => r15.bind fun o17 => (xobj w o17 5).bind fun _ => (ev 33 0 [some (xA r15)] [] w).bind fun p16 => xrI p16.1 fun i18 => if i18 = 0 then some (some (xJ (0 : Int64)), p16.2) else (xgA p16.2 a0 6 3).bind fun r19 => r19.bind fun o21 => (xgJ p16.2 o21 5 1).bind fun j20 => some (some (xJ j20), p16.2) else some (some (xJ (-2 : Int64)), w)
set_option maxRecDepth 100000 in
set_option maxHeartbeats 4000000 in
theorem r_X7_inHand_0 (ev : Nat → xK) (a0 : Nat) (n1 : Int32) (w : xW) : xstp (xca ev 50) 50 (xgo (xca ev 50) 50 (ev 50) 14) 0 [some (xA (some a0)), some (xI n1)] [] w = b_X7_inHand_0 ev a0 n1 w := rfl
theorem e_X7_inHand_0 (a0 : Nat) (n1 : Int32) (w : xW) : xev 50 0 [some (xA (some a0)), some (xI n1)] [] w = b_X7_inHand_0 xev a0 n1 w := (xev_go 50 14 0 [some (xA (some a0)), some (xI n1)] [] w).trans (r_X7_inHand_0 xev a0 n1 w)
def b_X7_chip_0 (ev : Nat → xK) (a0 : Nat) (n1 : Int32) (w : xW) : Option xR := (xgA w a0 6 3).bind fun r1 => r1.bind fun o3 => (xobj w o3 5).bind fun _ => (ev 33 0 [some (xA r1)] [] w).bind fun p2 => xrI p2.1 fun i4 => if i4 = 0 then some (some (xI (-3 : Int32)), p2.2) else (xgA p2.2 a0 6 3).bind fun r5 => r5.bind fun o7 => (xgJ p2.2 o7 5 1).bind fun j6 => if j6.toInt32 - (1 : Int32) < 0 then (xgA p2.2 a0 6 3).bind fun r8 => (xobj p2.2 a0 6).bind fun _ => (ev 75 0 [some (xA (some a0)), some (xA r8), none] [] p2.2).bind fun p9 => xrI p9.1 fun i10 => some (some (xI i10), p9.2) else (xgA p2.2 a0 6 9).bind fun r11 => r11.bind fun o13 => (xlen p2.2 o13).bind fun i12 => if j6.toInt32 - (1 : Int32) < i12 then (xgA p2.2 a0 6 9).bind fun r14 => r14.bind fun o16 => (xaI p2.2 o16 (j6.toInt32 - (1 : Int32))).bind fun i15 => r14.bind fun o18 => (xsI p2.2 o18 (j6.toInt32 - (1 : Int32)) (i15 + n1)).bind fun w17 => (xgA w17 a0 6 3).bind fun r19 => (xobj w17 a0 6).bind fun _ => (ev 75 0 [some (xA (some a0)), some (xA r19), none] [] w17).bind fun p20 => xrI p20.1 fun i21 => some (some (xI i21), p20.2) else (xgA p2.2 a0 6 3).bind fun r22 => (xobj p2.2 a0 6).bind fun _ => (ev 75 0 [some (xA (some a0)), some (xA r22), none] [] p2.2).bind fun p23 => xrI p23.1 fun i24 => some (some (xI i24), p23.2)
set_option maxRecDepth 100000 in
set_option maxHeartbeats 4000000 in
theorem r_X7_chip_0 (ev : Nat → xK) (a0 : Nat) (n1 : Int32) (w : xW) : xstp (xca ev 51) 51 (xgo (xca ev 51) 51 (ev 51) 32) 0 [some (xA (some a0)), some (xI n1), none] [] w = b_X7_chip_0 ev a0 n1 w := rfl
theorem e_X7_chip_0 (a0 : Nat) (n1 : Int32) (w : xW) : xev 51 0 [some (xA (some a0)), some (xI n1), none] [] w = b_X7_chip_0 xev a0 n1 w := (xev_go 51 32 0 [some (xA (some a0)), some (xI n1), none] [] w).trans (r_X7_chip_0 xev a0 n1 w)
def b_X7_cut_0 (ev : Nat → xK) (a0 : Nat) (n1 : Int32) (n2 : Int32) (n3 : Int32) (w : xW) : Option xR := (ev 66 0 [some (xI n1)] [] w).bind fun p1 => xrI p1.1 fun i2 => if i2 = 0 then some (some (xI (-1 : Int32)), p1.2) else (xgA p1.2 a0 6 0).bind fun r3 => r3.bind fun o5 => (xobj p1.2 o5 0).bind fun _ => (ev 1 0 [some (xA r3), some (xI n1)] [] p1.2).bind fun p4 => xrA p4.1 fun r6 => if r6 = none then (ev 76 0 [some (xA r6)] [] p4.2).bind fun p8 => xrI p8.1 fun i9 => some (some (xI i9), p8.2) else r6.bind fun o10 => (xcno p4.2 o10).bind fun c7 => if c7 = 3 then r6.bind fun o11 => (xobj p4.2 o11 3).bind fun _ => if n2 < 0 then some (some (xI (4 : Int32)), p4.2) else if n3 < (1 : Int32) then some (some (xI (4 : Int32)), p4.2) else r6.bind fun o13 => (xobj p4.2 o13 3).bind fun _ => (ev 19 0 [some (xA r6)] [] p4.2).bind fun p12 => xrI p12.1 fun i14 => if i14 - n2 < n3 then some (some (xI (4 : Int32)), p12.2) else r6.bind fun o16 => (xgI (xpush p12.2 3 (.inr (3, xdf 3))) o16 3 0).bind fun i15 => r6.bind fun o18 => (xobj (xpush p12.2 3 (.inr (3, xdf 3))) o18 3).bind fun _ => (ev 19 0 [some (xA r6)] [] (xpush p12.2 3 (.inr (3, xdf 3)))).bind fun p17 => xrI p17.1 fun i19 => (ev 17 0 [some (xA (some p12.2.1)), some (xI i15), some (xI (i19 - n3)), none] [] p17.2).bind fun p20 => xrV p20.1 ((xobj p20.2 p12.2.1 3).bind fun _ => (ev 23 0 [some (xA (some p12.2.1)), some (xA r6), some (xI (0 : Int32)), some (xI (0 : Int32)), some (xI n2), none] [] p20.2).bind fun p21 => xrV p21.1 (r6.bind fun o23 => (xobj p21.2 o23 3).bind fun _ => (ev 19 0 [some (xA r6)] [] p21.2).bind fun p22 => xrI p22.1 fun i24 => (xobj p22.2 p12.2.1 3).bind fun _ => (ev 23 0 [some (xA (some p12.2.1)), some (xA r6), some (xI (n2 + n3)), some (xI n2), some (xI ((i24 - n3) - n2)), none] [] p22.2).bind fun p25 => xrV p25.1 (r6.bind fun o27 => (xobj p25.2 o27 3).bind fun _ => (ev 24 0 [some (xA r6), some (xI n2), some (xI n3), none, none] [] p25.2).bind fun p26 => xrA p26.1 fun r28 => (xput p26.2 a0 6 4 (xA r28)).bind fun w29 => (xgA w29 a0 6 0).bind fun r30 => r30.bind fun o32 => (xobj w29 o32 0).bind fun _ => (ev 2 0 [some (xA r30), some (xI n1), some (xA (some p12.2.1))] [] w29).bind fun p31 => xrV p31.1 (some (some (xI (0 : Int32)), p31.2))))) else if c7 = 5 then (ev 76 0 [some (xA r6)] [] p4.2).bind fun p33 => xrI p33.1 fun i34 => some (some (xI i34), p33.2) else none
set_option maxRecDepth 100000 in
set_option maxHeartbeats 4000000 in
theorem r_X7_cut_0 (ev : Nat → xK) (a0 : Nat) (n1 : Int32) (n2 : Int32) (n3 : Int32) (w : xW) : xstp (xca ev 52) 52 (xgo (xca ev 52) 52 (ev 52) 69) 0 [some (xA (some a0)), some (xI n1), some (xI n2), some (xI n3), none, none, none] [] w = b_X7_cut_0 ev a0 n1 n2 n3 w := rfl
theorem e_X7_cut_0 (a0 : Nat) (n1 : Int32) (n2 : Int32) (n3 : Int32) (w : xW) : xev 52 0 [some (xA (some a0)), some (xI n1), some (xI n2), some (xI n3), none, none, none] [] w = b_X7_cut_0 xev a0 n1 n2 n3 w := (xev_go 52 69 0 [some (xA (some a0)), some (xI n1), some (xI n2), some (xI n3), none, none, none] [] w).trans (r_X7_cut_0 xev a0 n1 n2 n3 w)
def b_X7_paste_0 (ev : Nat → xK) (a0 : Nat) (n1 : Int32) (n2 : Int32) (w : xW) : Option xR := (ev 66 0 [some (xI n1)] [] w).bind fun p1 => xrI p1.1 fun i2 => if i2 = 0 then some (some (xI (-1 : Int32)), p1.2) else (xgA p1.2 a0 6 4).bind fun r3 => if r3 = none then some (some (xI (-3 : Int32)), p1.2) else (xgA p1.2 a0 6 0).bind fun r4 => r4.bind fun o6 => (xobj p1.2 o6 0).bind fun _ => (ev 1 0 [some (xA r4), some (xI n1)] [] p1.2).bind fun p5 => xrA p5.1 fun r7 => if r7 = none then (ev 76 0 [some (xA r7)] [] p5.2).bind fun p9 => xrI p9.1 fun i10 => some (some (xI i10), p9.2) else r7.bind fun o11 => (xcno p5.2 o11).bind fun c8 => if c8 = 3 then r7.bind fun o12 => (xobj p5.2 o12 3).bind fun _ => r7.bind fun o14 => (xobj p5.2 o14 3).bind fun _ => (ev 19 0 [some (xA r7)] [] p5.2).bind fun p13 => xrI p13.1 fun i15 => (xgA p13.2 a0 6 4).bind fun r16 => r16.bind fun o18 => (xobj p13.2 o18 3).bind fun _ => (ev 19 0 [some (xA r16)] [] p13.2).bind fun p17 => xrI p17.1 fun i19 => if (24 : Int32) < i15 + i19 then some (some (xI (-4 : Int32)), p17.2) else if n2 < 0 then some (some (xI (4 : Int32)), p17.2) else r7.bind fun o21 => (xobj p17.2 o21 3).bind fun _ => (ev 19 0 [some (xA r7)] [] p17.2).bind fun p20 => xrI p20.1 fun i22 => if i22 < n2 then some (some (xI (4 : Int32)), p20.2) else (xgA p20.2 a0 6 4).bind fun r23 => r7.bind fun o25 => (xgI p20.2 o25 3 0).bind fun i24 => r23.bind fun o27 => (xobj p20.2 o27 3).bind fun _ => (ev 25 0 [some (xA r23), some (xI i24), none] [] p20.2).bind fun p26 => xrI p26.1 fun i28 => (xgA p26.2 a0 6 4).bind fun r29 => r29.bind fun o31 => (xobj p26.2 o31 3).bind fun _ => (ev 19 0 [some (xA r29)] [] p26.2).bind fun p30 => xrI p30.1 fun i32 => if i28 < i32 then (xobj p30.2 a0 6).bind fun _ => (ev 84 0 [some (xA (some a0)), some (xI i28)] [] p30.2).bind fun p33 => xrV p33.1 (some (some (xI (5 : Int32)), p33.2)) else r7.bind fun o35 => (xgI (xpush p30.2 3 (.inr (3, xdf 3))) o35 3 0).bind fun i34 => r7.bind fun o37 => (xobj (xpush p30.2 3 (.inr (3, xdf 3))) o37 3).bind fun _ => (ev 19 0 [some (xA r7)] [] (xpush p30.2 3 (.inr (3, xdf 3)))).bind fun p36 => xrI p36.1 fun i38 => (xgA p36.2 a0 6 4).bind fun r39 => r39.bind fun o41 => (xobj p36.2 o41 3).bind fun _ => (ev 19 0 [some (xA r39)] [] p36.2).bind fun p40 => xrI p40.1 fun i42 => (ev 17 0 [some (xA (some p30.2.1)), some (xI i34), some (xI (i38 + i42)), none] [] p40.2).bind fun p43 => xrV p43.1 ((xobj p43.2 p30.2.1 3).bind fun _ => (ev 23 0 [some (xA (some p30.2.1)), some (xA r7), some (xI (0 : Int32)), some (xI (0 : Int32)), some (xI n2), none] [] p43.2).bind fun p44 => xrV p44.1 ((xgA p44.2 a0 6 4).bind fun r45 => (xgA p44.2 a0 6 4).bind fun r46 => r46.bind fun o48 => (xobj p44.2 o48 3).bind fun _ => (ev 19 0 [some (xA r46)] [] p44.2).bind fun p47 => xrI p47.1 fun i49 => (xobj p47.2 p30.2.1 3).bind fun _ => (ev 23 0 [some (xA (some p30.2.1)), some (xA r45), some (xI (0 : Int32)), some (xI n2), some (xI i49), none] [] p47.2).bind fun p50 => xrV p50.1 ((xgA p50.2 a0 6 4).bind fun r51 => r51.bind fun o53 => (xobj p50.2 o53 3).bind fun _ => (ev 19 0 [some (xA r51)] [] p50.2).bind fun p52 => xrI p52.1 fun i54 => r7.bind fun o56 => (xobj p52.2 o56 3).bind fun _ => (ev 19 0 [some (xA r7)] [] p52.2).bind fun p55 => xrI p55.1 fun i57 => (xobj p55.2 p30.2.1 3).bind fun _ => (ev 23 0 [some (xA (some p30.2.1)), some (xA r7), some (xI n2), some (xI (n2 + i54)), some (xI (i57 - n2)), none] [] p55.2).bind fun p58 => xrV p58.1 ((xgA p58.2 a0 6 0).bind fun r59 => r59.bind fun o61 => (xobj p58.2 o61 0).bind fun _ => (ev 2 0 [some (xA r59), some (xI n1), some (xA (some p30.2.1))] [] p58.2).bind fun p60 => xrV p60.1 (some (some (xI (0 : Int32)), p60.2)))))) else if c8 = 5 then (ev 76 0 [some (xA r7)] [] p5.2).bind fun p62 => xrI p62.1 fun i63 => some (some (xI i63), p62.2) else none
set_option maxRecDepth 100000 in
set_option maxHeartbeats 4000000 in
theorem r_X7_paste_0 (ev : Nat → xK) (a0 : Nat) (n1 : Int32) (n2 : Int32) (w : xW) : xstp (xca ev 53) 53 (xgo (xca ev 53) 53 (ev 53) 91) 0 [some (xA (some a0)), some (xI n1), some (xI n2), none, none, none, none] [] w = b_X7_paste_0 ev a0 n1 n2 w := rfl
theorem e_X7_paste_0 (a0 : Nat) (n1 : Int32) (n2 : Int32) (w : xW) : xev 53 0 [some (xA (some a0)), some (xI n1), some (xI n2), none, none, none, none] [] w = b_X7_paste_0 xev a0 n1 n2 w := (xev_go 53 91 0 [some (xA (some a0)), some (xI n1), some (xI n2), none, none, none, none] [] w).trans (r_X7_paste_0 xev a0 n1 n2 w)
def b_X7_turn_0 (ev : Nat → xK) (a0 : Nat) (n1 : Int32) (n2 : Int32) (w : xW) : Option xR := (ev 66 0 [some (xI n1)] [] w).bind fun p1 => xrI p1.1 fun i2 => if i2 = 0 then some (some (xI (-1 : Int32)), p1.2) else if n2 < 0 then some (some (xI (-2 : Int32)), p1.2) else if (12 : Int32) < n2 then some (some (xI (-2 : Int32)), p1.2) else (xgA p1.2 a0 6 0).bind fun r3 => r3.bind fun o5 => (xobj p1.2 o5 0).bind fun _ => (ev 1 0 [some (xA r3), some (xI n1)] [] p1.2).bind fun p4 => xrA p4.1 fun r6 => if r6 = none then (ev 76 0 [some (xA r6)] [] p4.2).bind fun p8 => xrI p8.1 fun i9 => some (some (xI i9), p8.2) else r6.bind fun o10 => (xcno p4.2 o10).bind fun c7 => if c7 = 3 then r6.bind fun o11 => (xobj p4.2 o11 3).bind fun _ => r6.bind fun o13 => (xobj p4.2 o13 3).bind fun _ => (ev 25 0 [some (xA r6), some (xI n2), none] [] p4.2).bind fun p12 => xrI p12.1 fun i14 => r6.bind fun o16 => (xobj p12.2 o16 3).bind fun _ => (ev 19 0 [some (xA r6)] [] p12.2).bind fun p15 => xrI p15.1 fun i17 => if i14 < i17 then (xobj p15.2 a0 6).bind fun _ => (ev 84 0 [some (xA (some a0)), some (xI i14)] [] p15.2).bind fun p18 => xrV p18.1 (some (some (xI (5 : Int32)), p18.2)) else r6.bind fun o20 => (xobj (xpush p15.2 3 (.inr (3, xdf 3))) o20 3).bind fun _ => (ev 19 0 [some (xA r6)] [] (xpush p15.2 3 (.inr (3, xdf 3)))).bind fun p19 => xrI p19.1 fun i21 => (ev 17 0 [some (xA (some p15.2.1)), some (xI n2), some (xI i21), none] [] p19.2).bind fun p22 => xrV p22.1 (r6.bind fun o24 => (xobj p22.2 o24 3).bind fun _ => (ev 19 0 [some (xA r6)] [] p22.2).bind fun p23 => xrI p23.1 fun i25 => (xobj p23.2 p15.2.1 3).bind fun _ => (ev 23 0 [some (xA (some p15.2.1)), some (xA r6), some (xI (0 : Int32)), some (xI (0 : Int32)), some (xI i25), none] [] p23.2).bind fun p26 => xrV p26.1 ((xgA p26.2 a0 6 0).bind fun r27 => r27.bind fun o29 => (xobj p26.2 o29 0).bind fun _ => (ev 2 0 [some (xA r27), some (xI n1), some (xA (some p15.2.1))] [] p26.2).bind fun p28 => xrV p28.1 (some (some (xI (0 : Int32)), p28.2)))) else if c7 = 5 then (ev 76 0 [some (xA r6)] [] p4.2).bind fun p30 => xrI p30.1 fun i31 => some (some (xI i31), p30.2) else none
set_option maxRecDepth 100000 in
set_option maxHeartbeats 4000000 in
theorem r_X7_turn_0 (ev : Nat → xK) (a0 : Nat) (n1 : Int32) (n2 : Int32) (w : xW) : xstp (xca ev 54) 54 (xgo (xca ev 54) 54 (ev 54) 50) 0 [some (xA (some a0)), some (xI n1), some (xI n2), none, none, none, none] [] w = b_X7_turn_0 ev a0 n1 n2 w := rfl
theorem e_X7_turn_0 (a0 : Nat) (n1 : Int32) (n2 : Int32) (w : xW) : xev 54 0 [some (xA (some a0)), some (xI n1), some (xI n2), none, none, none, none] [] w = b_X7_turn_0 xev a0 n1 n2 w := (xev_go 54 50 0 [some (xA (some a0)), some (xI n1), some (xI n2), none, none, none, none] [] w).trans (r_X7_turn_0 xev a0 n1 n2 w)
def b_X7_fits_0 (ev : Nat → xK) (a0 : Nat) (n1 : Int32) (w : xW) : Option xR := (ev 66 0 [some (xI n1)] [] w).bind fun p1 => xrI p1.1 fun i2 => if i2 = 0 then some (some (xI (-1 : Int32)), p1.2) else (xgA p1.2 a0 6 0).bind fun r3 => r3.bind fun o5 => (xobj p1.2 o5 0).bind fun _ => (ev 1 0 [some (xA r3), some (xI n1)] [] p1.2).bind fun p4 => xrA p4.1 fun r6 => if r6 = none then some (some (xI (0 : Int32)), p4.2) else r6.bind fun o8 => (xcno p4.2 o8).bind fun c7 => if c7 = 3 then r6.bind fun o9 => (xobj p4.2 o9 3).bind fun _ => r6.bind fun o11 => (xobj p4.2 o11 3).bind fun _ => (ev 26 0 [some (xA r6), none, none] [] p4.2).bind fun p10 => xrI p10.1 fun i12 => some (some (xI i12), p10.2) else if c7 = 5 then some (some (xI (0 : Int32)), p4.2) else none
set_option maxRecDepth 100000 in
set_option maxHeartbeats 4000000 in
theorem r_X7_fits_0 (ev : Nat → xK) (a0 : Nat) (n1 : Int32) (w : xW) : xstp (xca ev 55) 55 (xgo (xca ev 55) 55 (ev 55) 19) 0 [some (xA (some a0)), some (xI n1), none, none] [] w = b_X7_fits_0 ev a0 n1 w := rfl
theorem e_X7_fits_0 (a0 : Nat) (n1 : Int32) (w : xW) : xev 55 0 [some (xA (some a0)), some (xI n1), none, none] [] w = b_X7_fits_0 xev a0 n1 w := (xev_go 55 19 0 [some (xA (some a0)), some (xI n1), none, none] [] w).trans (r_X7_fits_0 xev a0 n1 w)
def b_X7_pour_0 (ev : Nat → xK) (a0 : Nat) (n1 : Int32) (n2 : Int32) (n3 : Int32) (n4 : Int32) (n5 : Int32) (w : xW) : Option xR := (ev 66 0 [some (xI n1)] [] w).bind fun p1 => xrI p1.1 fun i2 => if i2 = 0 then some (some (xI (-1 : Int32)), p1.2) else (ev 66 0 [some (xI n3)] [] p1.2).bind fun p3 => xrI p3.1 fun i4 => if i4 = 0 then some (some (xI (-1 : Int32)), p3.2) else if n5 = (8 : Int32) then ev 56 37 [some (xA (some a0)), some (xI n1), some (xI n2), some (xI n3), some (xI n4), some (xI n5), some (xI (0 : Int32))] [] p3.2 else (ev 67 0 [some (xI n5)] [] p3.2).bind fun p5 => xrI p5.1 fun i6 => if i6 = 0 then some (some (xI (-2 : Int32)), p5.2) else ev 56 37 [some (xA (some a0)), some (xI n1), some (xI n2), some (xI n3), some (xI n4), some (xI n5), some (xI (0 : Int32))] [] p5.2
set_option maxRecDepth 100000 in
set_option maxHeartbeats 4000000 in
theorem r_X7_pour_0 (ev : Nat → xK) (a0 : Nat) (n1 : Int32) (n2 : Int32) (n3 : Int32) (n4 : Int32) (n5 : Int32) (w : xW) : xstp (xca ev 56) 56 (xgo (xca ev 56) 56 (ev 56) 16) 0 [some (xA (some a0)), some (xI n1), some (xI n2), some (xI n3), some (xI n4), some (xI n5), none] [] w = b_X7_pour_0 ev a0 n1 n2 n3 n4 n5 w := rfl
theorem e_X7_pour_0 (a0 : Nat) (n1 : Int32) (n2 : Int32) (n3 : Int32) (n4 : Int32) (n5 : Int32) (w : xW) : xev 56 0 [some (xA (some a0)), some (xI n1), some (xI n2), some (xI n3), some (xI n4), some (xI n5), none] [] w = b_X7_pour_0 xev a0 n1 n2 n3 n4 n5 w := (xev_go 56 16 0 [some (xA (some a0)), some (xI n1), some (xI n2), some (xI n3), some (xI n4), some (xI n5), none] [] w).trans (r_X7_pour_0 xev a0 n1 n2 n3 n4 n5 w)
def b_X7_pour_37 (ev : Nat → xK) (a0 : Nat) (n1 : Int32) (n2 : Int32) (n3 : Int32) (n4 : Int32) (n5 : Int32) (n6 : Int32) (w : xW) : Option xR := if (24 : Int32) < n6 then some (some (xI (24 : Int32)), w) else if n5 = (8 : Int32) then (xobj w a0 6).bind fun _ => (ev 80 0 [some (xA (some a0)), some (xI n1), some (xI (n2 + n6)), none, none, none] [] w).bind fun p1 => xrI p1.1 fun i2 => (xput p1.2 a0 6 12 (xI i2)).bind fun w3 => (xgI w3 a0 6 12).bind fun i4 => if i4 = 0 then if n5 = (8 : Int32) then (xobj w3 a0 6).bind fun _ => (ev 81 0 [some (xA (some a0)), some (xI n3), some (xI (n4 + n6)), none, none, none] [] w3).bind fun p5 => xrI p5.1 fun i6 => (xput p5.2 a0 6 12 (xI i6)).bind fun w7 => (xgI w7 a0 6 12).bind fun i8 => if i8 = 0 then ev 56 37 [some (xA (some a0)), some (xI n1), some (xI n2), some (xI n3), some (xI n4), some (xI n5), some (xI (n6 + (1 : Int32)))] [] w7 else some (some (xI n6), w7) else (xgA w3 a0 6 2).bind fun r9 => (xobj w3 a0 6).bind fun _ => (ev 79 0 [some (xA (some a0)), some (xI n3), some (xI (n4 + n6)), some (xA r9), none, none, none] [] w3).bind fun p10 => xrI p10.1 fun i11 => (xput p10.2 a0 6 12 (xI i11)).bind fun w12 => (xgI w12 a0 6 12).bind fun i13 => if i13 = 0 then ev 56 37 [some (xA (some a0)), some (xI n1), some (xI n2), some (xI n3), some (xI n4), some (xI n5), some (xI (n6 + (1 : Int32)))] [] w12 else some (some (xI n6), w12) else (xgI w3 a0 6 12).bind fun i14 => if i14 = 0 then ev 56 37 [some (xA (some a0)), some (xI n1), some (xI n2), some (xI n3), some (xI n4), some (xI n5), some (xI (n6 + (1 : Int32)))] [] w3 else some (some (xI n6), w3) else (xobj w a0 6).bind fun _ => (ev 78 0 [some (xA (some a0)), some (xI n1), some (xI (n2 + n6)), some (xI n5), none, none, none] [] w).bind fun p15 => xrI p15.1 fun i16 => (xput p15.2 a0 6 12 (xI i16)).bind fun w17 => (xgI w17 a0 6 12).bind fun i18 => if i18 = 0 then if n5 = (8 : Int32) then (xobj w17 a0 6).bind fun _ => (ev 81 0 [some (xA (some a0)), some (xI n3), some (xI (n4 + n6)), none, none, none] [] w17).bind fun p19 => xrI p19.1 fun i20 => (xput p19.2 a0 6 12 (xI i20)).bind fun w21 => (xgI w21 a0 6 12).bind fun i22 => if i22 = 0 then ev 56 37 [some (xA (some a0)), some (xI n1), some (xI n2), some (xI n3), some (xI n4), some (xI n5), some (xI (n6 + (1 : Int32)))] [] w21 else some (some (xI n6), w21) else (xgA w17 a0 6 2).bind fun r23 => (xobj w17 a0 6).bind fun _ => (ev 79 0 [some (xA (some a0)), some (xI n3), some (xI (n4 + n6)), some (xA r23), none, none, none] [] w17).bind fun p24 => xrI p24.1 fun i25 => (xput p24.2 a0 6 12 (xI i25)).bind fun w26 => (xgI w26 a0 6 12).bind fun i27 => if i27 = 0 then ev 56 37 [some (xA (some a0)), some (xI n1), some (xI n2), some (xI n3), some (xI n4), some (xI n5), some (xI (n6 + (1 : Int32)))] [] w26 else some (some (xI n6), w26) else (xgI w17 a0 6 12).bind fun i28 => if i28 = 0 then ev 56 37 [some (xA (some a0)), some (xI n1), some (xI n2), some (xI n3), some (xI n4), some (xI n5), some (xI (n6 + (1 : Int32)))] [] w17 else some (some (xI n6), w17)
set_option maxRecDepth 100000 in
set_option maxHeartbeats 4000000 in
theorem r_X7_pour_37 (ev : Nat → xK) (a0 : Nat) (n1 : Int32) (n2 : Int32) (n3 : Int32) (n4 : Int32) (n5 : Int32) (n6 : Int32) (w : xW) : xstp (xca ev 56) 56 (xgo (xca ev 56) 56 (ev 56) 38) 37 [some (xA (some a0)), some (xI n1), some (xI n2), some (xI n3), some (xI n4), some (xI n5), some (xI n6)] [] w = b_X7_pour_37 ev a0 n1 n2 n3 n4 n5 n6 w := rfl
theorem e_X7_pour_37 (a0 : Nat) (n1 : Int32) (n2 : Int32) (n3 : Int32) (n4 : Int32) (n5 : Int32) (n6 : Int32) (w : xW) : xev 56 37 [some (xA (some a0)), some (xI n1), some (xI n2), some (xI n3), some (xI n4), some (xI n5), some (xI n6)] [] w = b_X7_pour_37 xev a0 n1 n2 n3 n4 n5 n6 w := (xev_go 56 38 37 [some (xA (some a0)), some (xI n1), some (xI n2), some (xI n3), some (xI n4), some (xI n5), some (xI n6)] [] w).trans (r_X7_pour_37 xev a0 n1 n2 n3 n4 n5 n6 w)
def b_X7_sum_0 (ev : Nat → xK) (a0 : Nat) (n1 : Int32) (n2 : Int32) (w : xW) : Option xR := (ev 66 0 [some (xI n1)] [] w).bind fun p1 => xrI p1.1 fun i2 => if i2 = 0 then some (some (xI (-1 : Int32)), p1.2) else (ev 67 0 [some (xI n2)] [] p1.2).bind fun p3 => xrI p3.1 fun i4 => if i4 = 0 then some (some (xI (-2 : Int32)), p3.2) else if n2 = 0 then some (some (xI (-2 : Int32)), p3.2) else (xgA p3.2 a0 6 7).bind fun r5 => (xobj p3.2 a0 6).bind fun _ => (ev 83 0 [some (xA (some a0)), some (xI n1), some (xI n2), some (xA r5), none, none] [] p3.2).bind fun p6 => xrI p6.1 fun i7 => (xput p6.2 a0 6 12 (xI i7)).bind fun w8 => (xgI w8 a0 6 12).bind fun i9 => if i9 = (4 : Int32) then (xgA w8 a0 6 7).bind fun r10 => r10.bind fun o12 => (xobj w8 o12 2).bind fun _ => (ev 16 0 [some (xA r10), some (xI n2), none, none, none, none, none, none] [] w8).bind fun p11 => xrA p11.1 fun r13 => (xput p11.2 a0 6 2 (xA r13)).bind fun w14 => some (some (xI (0 : Int32)), w14) else (xgI w8 a0 6 12).bind fun i15 => some (some (xI ((-10 : Int32) - i15)), w8)
set_option maxRecDepth 100000 in
set_option maxHeartbeats 4000000 in
theorem r_X7_sum_0 (ev : Nat → xK) (a0 : Nat) (n1 : Int32) (n2 : Int32) (w : xW) : xstp (xca ev 57) 57 (xgo (xca ev 57) 57 (ev 57) 29) 0 [some (xA (some a0)), some (xI n1), some (xI n2)] [] w = b_X7_sum_0 ev a0 n1 n2 w := rfl
theorem e_X7_sum_0 (a0 : Nat) (n1 : Int32) (n2 : Int32) (w : xW) : xev 57 0 [some (xA (some a0)), some (xI n1), some (xI n2)] [] w = b_X7_sum_0 xev a0 n1 n2 w := (xev_go 57 29 0 [some (xA (some a0)), some (xI n1), some (xI n2)] [] w).trans (r_X7_sum_0 xev a0 n1 n2 w)
def b_X7_where_0 (ev : Nat → xK) (a0 : Nat) (n1 : Int32) (n2 : Int32) (n3 : Int32) (v4 : Int64) (w : xW) : Option xR := (ev 66 0 [some (xI n1)] [] w).bind fun p1 => xrI p1.1 fun i2 => if i2 = 0 then some (some (xI (-1 : Int32)), p1.2) else (ev 67 0 [some (xI n2)] [] p1.2).bind fun p3 => xrI p3.1 fun i4 => if i4 = 0 then some (some (xI (-2 : Int32)), p3.2) else if n3 < 0 then some (some (xI (-2 : Int32)), p3.2) else if (2 : Int32) < n3 then some (some (xI (-2 : Int32)), p3.2) else (xgA p3.2 a0 6 7).bind fun r5 => (xobj p3.2 a0 6).bind fun _ => (ev 83 0 [some (xA (some a0)), some (xI n1), some (xI n2), some (xA r5), none, none] [] p3.2).bind fun p6 => xrI p6.1 fun i7 => (xput p6.2 a0 6 12 (xI i7)).bind fun w8 => (xgI w8 a0 6 12).bind fun i9 => if i9 = (4 : Int32) then if (5 : Int32) < n2 then (ev 32 0 [some (xI n2), some (xJ v4), none] [] w8).bind fun p10 => xrA p10.1 fun r11 => (xgA p10.2 a0 6 6).bind fun r12 => r12.bind fun o14 => (xobj p10.2 o14 1).bind fun _ => (ev 6 0 [some (xA r12)] [] p10.2).bind fun p13 => xrV p13.1 (ev 58 85 [some (xA (some a0)), none, none, some (xI n3), none, none, some (xA r11), some (xI (0 : Int32))] [] p13.2) else (ev 32 0 [some (xI (5 : Int32)), some (xJ v4), none] [] w8).bind fun p15 => xrA p15.1 fun r16 => (xgA p15.2 a0 6 6).bind fun r17 => r17.bind fun o19 => (xobj p15.2 o19 1).bind fun _ => (ev 6 0 [some (xA r17)] [] p15.2).bind fun p18 => xrV p18.1 (ev 58 85 [some (xA (some a0)), none, none, some (xI n3), none, none, some (xA r16), some (xI (0 : Int32))] [] p18.2) else (xgI w8 a0 6 12).bind fun i20 => some (some (xI ((-10 : Int32) - i20)), w8)
set_option maxRecDepth 100000 in
set_option maxHeartbeats 4000000 in
theorem r_X7_where_0 (ev : Nat → xK) (a0 : Nat) (n1 : Int32) (n2 : Int32) (n3 : Int32) (v4 : Int64) (w : xW) : xstp (xca ev 58) 58 (xgo (xca ev 58) 58 (ev 58) 38) 0 [some (xA (some a0)), some (xI n1), some (xI n2), some (xI n3), some (xJ v4), none, none, none] [] w = b_X7_where_0 ev a0 n1 n2 n3 v4 w := rfl
theorem e_X7_where_0 (a0 : Nat) (n1 : Int32) (n2 : Int32) (n3 : Int32) (v4 : Int64) (w : xW) : xev 58 0 [some (xA (some a0)), some (xI n1), some (xI n2), some (xI n3), some (xJ v4), none, none, none] [] w = b_X7_where_0 xev a0 n1 n2 n3 v4 w := (xev_go 58 38 0 [some (xA (some a0)), some (xI n1), some (xI n2), some (xI n3), some (xJ v4), none, none, none] [] w).trans (r_X7_where_0 xev a0 n1 n2 n3 v4 w)
def b_X7_where_85 (ev : Nat → xK) (a0 : Nat) (n3 : Int32) (a6 : Nat) (n7 : Int32) (w : xW) : Option xR := (xgA w a0 6 7).bind fun r1 => r1.bind fun o3 => (xobj w o3 2).bind fun _ => (ev 14 0 [some (xA r1)] [] w).bind fun p2 => xrI p2.1 fun i4 => if n7 < i4 then (xgA p2.2 a0 6 7).bind fun r5 => r5.bind fun o7 => (xobj p2.2 o7 2).bind fun _ => (ev 15 0 [some (xA r5), some (xI n7)] [] p2.2).bind fun p6 => xrA p6.1 fun r8 => r8.bind fun o10 => (xobj p6.2 o10 5).bind fun _ => (ev 36 0 [some (xA r8), some (xA (some a6))] [] p6.2).bind fun p9 => xrI p9.1 fun i11 => if i11 = n3 - (1 : Int32) then (xgA p9.2 a0 6 6).bind fun r12 => r12.bind fun o14 => (xobj p9.2 o14 1).bind fun _ => (ev 7 0 [some (xA r12), some (xI n7), some (xI n7)] [] p9.2).bind fun p13 => xrI p13.1 fun i15 => ev 58 85 [some (xA (some a0)), none, none, some (xI n3), none, none, some (xA (some a6)), some (xI (n7 + (1 : Int32)))] [] p13.2 else ev 58 85 [some (xA (some a0)), none, none, some (xI n3), none, none, some (xA (some a6)), some (xI (n7 + (1 : Int32)))] [] p9.2 else (xobj p2.2 a0 6).bind fun _ => (ev 86 0 [some (xA (some a0)), none] [] p2.2).bind fun p16 => xrI p16.1 fun i17 => some (some (xI i17), p16.2)
set_option maxRecDepth 100000 in
set_option maxHeartbeats 4000000 in
theorem r_X7_where_85 (ev : Nat → xK) (a0 : Nat) (n3 : Int32) (a6 : Nat) (n7 : Int32) (w : xW) : xstp (xca ev 58) 58 (xgo (xca ev 58) 58 (ev 58) 25) 85 [some (xA (some a0)), none, none, some (xI n3), none, none, some (xA (some a6)), some (xI n7)] [] w = b_X7_where_85 ev a0 n3 a6 n7 w := rfl
theorem e_X7_where_85 (a0 : Nat) (n3 : Int32) (a6 : Nat) (n7 : Int32) (w : xW) : xev 58 85 [some (xA (some a0)), none, none, some (xI n3), none, none, some (xA (some a6)), some (xI n7)] [] w = b_X7_where_85 xev a0 n3 a6 n7 w := (xev_go 58 25 85 [some (xA (some a0)), none, none, some (xI n3), none, none, some (xA (some a6)), some (xI n7)] [] w).trans (r_X7_where_85 xev a0 n3 a6 n7 w)
def b_X7_meet_0 (ev : Nat → xK) (a0 : Nat) (n1 : Int32) (n2 : Int32) (n3 : Int32) (w : xW) : Option xR := (ev 66 0 [some (xI n1)] [] w).bind fun p1 => xrI p1.1 fun i2 => if i2 = 0 then some (some (xI (-1 : Int32)), p1.2) else (ev 66 0 [some (xI n2)] [] p1.2).bind fun p3 => xrI p3.1 fun i4 => if i4 = 0 then some (some (xI (-1 : Int32)), p3.2) else (ev 67 0 [some (xI n3)] [] p3.2).bind fun p5 => xrI p5.1 fun i6 => if i6 = 0 then some (some (xI (-2 : Int32)), p5.2) else (xgA p5.2 a0 6 7).bind fun r7 => (xobj p5.2 a0 6).bind fun _ => (ev 83 0 [some (xA (some a0)), some (xI n1), some (xI n3), some (xA r7), none, none] [] p5.2).bind fun p8 => xrI p8.1 fun i9 => (xput p8.2 a0 6 12 (xI i9)).bind fun w10 => (xgI w10 a0 6 12).bind fun i11 => if i11 = (4 : Int32) then (xgA w10 a0 6 8).bind fun r12 => (xobj w10 a0 6).bind fun _ => (ev 83 0 [some (xA (some a0)), some (xI n2), some (xI n3), some (xA r12), none, none] [] w10).bind fun p13 => xrI p13.1 fun i14 => (xput p13.2 a0 6 12 (xI i14)).bind fun w15 => (xgI w15 a0 6 12).bind fun i16 => if i16 = (4 : Int32) then (xobj w15 a0 6).bind fun _ => (ev 85 0 [some (xA (some a0)), none, none] [] w15).bind fun p17 => xrI p17.1 fun i18 => if i18 = 0 then some (some (xI (-4 : Int32)), p17.2) else (xobj p17.2 a0 6).bind fun _ => (ev 86 0 [some (xA (some a0)), none] [] p17.2).bind fun p19 => xrI p19.1 fun i20 => some (some (xI i20), p19.2) else (xgI w15 a0 6 12).bind fun i21 => some (some (xI ((-10 : Int32) - i21)), w15) else (xgI w10 a0 6 12).bind fun i22 => if i22 = (4 : Int32) then (xobj w10 a0 6).bind fun _ => (ev 85 0 [some (xA (some a0)), none, none] [] w10).bind fun p23 => xrI p23.1 fun i24 => if i24 = 0 then some (some (xI (-4 : Int32)), p23.2) else (xobj p23.2 a0 6).bind fun _ => (ev 86 0 [some (xA (some a0)), none] [] p23.2).bind fun p25 => xrI p25.1 fun i26 => some (some (xI i26), p25.2) else (xgI w10 a0 6 12).bind fun i27 => some (some (xI ((-10 : Int32) - i27)), w10)
set_option maxRecDepth 100000 in
set_option maxHeartbeats 4000000 in
theorem r_X7_meet_0 (ev : Nat → xK) (a0 : Nat) (n1 : Int32) (n2 : Int32) (n3 : Int32) (w : xW) : xstp (xca ev 59) 59 (xgo (xca ev 59) 59 (ev 59) 41) 0 [some (xA (some a0)), some (xI n1), some (xI n2), some (xI n3)] [] w = b_X7_meet_0 ev a0 n1 n2 n3 w := rfl
theorem e_X7_meet_0 (a0 : Nat) (n1 : Int32) (n2 : Int32) (n3 : Int32) (w : xW) : xev 59 0 [some (xA (some a0)), some (xI n1), some (xI n2), some (xI n3)] [] w = b_X7_meet_0 xev a0 n1 n2 n3 w := (xev_go 59 41 0 [some (xA (some a0)), some (xI n1), some (xI n2), some (xI n3)] [] w).trans (r_X7_meet_0 xev a0 n1 n2 n3 w)
def b_X7_pair_0 (ev : Nat → xK) (a0 : Nat) (n1 : Int32) (n2 : Int32) (w : xW) : Option xR := if n2 = 0 then (xgA w a0 6 5).bind fun r1 => r1.bind fun o3 => (xobj w o3 1).bind fun _ => (ev 9 0 [some (xA r1), some (xI n1)] [] w).bind fun p2 => xrI p2.1 fun i4 => if i4 = 0 then some (some (xI (-6 : Int32)), p2.2) else (xgA p2.2 a0 6 5).bind fun r5 => r5.bind fun o7 => (xobj p2.2 o7 1).bind fun _ => (ev 10 0 [some (xA r5), some (xI n1), some (xI n2)] [] p2.2).bind fun p6 => xrI p6.1 fun i8 => some (some (xI i8), p6.2) else if n2 = (1 : Int32) then (xgA w a0 6 5).bind fun r9 => r9.bind fun o11 => (xobj w o11 1).bind fun _ => (ev 9 0 [some (xA r9), some (xI n1)] [] w).bind fun p10 => xrI p10.1 fun i12 => if i12 = 0 then some (some (xI (-6 : Int32)), p10.2) else (xgA p10.2 a0 6 5).bind fun r13 => r13.bind fun o15 => (xobj p10.2 o15 1).bind fun _ => (ev 10 0 [some (xA r13), some (xI n1), some (xI n2)] [] p10.2).bind fun p14 => xrI p14.1 fun i16 => some (some (xI i16), p14.2) else some (some (xI (-2 : Int32)), w)
set_option maxRecDepth 100000 in
set_option maxHeartbeats 4000000 in
theorem r_X7_pair_0 (ev : Nat → xK) (a0 : Nat) (n1 : Int32) (n2 : Int32) (w : xW) : xstp (xca ev 60) 60 (xgo (xca ev 60) 60 (ev 60) 18) 0 [some (xA (some a0)), some (xI n1), some (xI n2)] [] w = b_X7_pair_0 ev a0 n1 n2 w := rfl
theorem e_X7_pair_0 (a0 : Nat) (n1 : Int32) (n2 : Int32) (w : xW) : xev 60 0 [some (xA (some a0)), some (xI n1), some (xI n2)] [] w = b_X7_pair_0 xev a0 n1 n2 w := (xev_go 60 18 0 [some (xA (some a0)), some (xI n1), some (xI n2)] [] w).trans (r_X7_pair_0 xev a0 n1 n2 w)
def b_X7_gather_0 (ev : Nat → xK) (a0 : Nat) (n1 : Int32) (n2 : Int32) (n3 : Int32) (w : xW) : Option xR := (ev 66 0 [some (xI n1)] [] w).bind fun p1 => xrI p1.1 fun i2 => if i2 = 0 then some (some (xI (-1 : Int32)), p1.2) else (ev 66 0 [some (xI n3)] [] p1.2).bind fun p3 => xrI p3.1 fun i4 => if i4 = 0 then some (some (xI (-1 : Int32)), p3.2) else if n2 = 0 then (xgA p3.2 a0 6 0).bind fun r5 => r5.bind fun o7 => (xobj p3.2 o7 0).bind fun _ => (ev 1 0 [some (xA r5), some (xI n1)] [] p3.2).bind fun p6 => xrA p6.1 fun r8 => if r8 = none then (ev 76 0 [some (xA r8)] [] p6.2).bind fun p10 => xrI p10.1 fun i11 => some (some (xI i11), p10.2) else r8.bind fun o12 => (xcno p6.2 o12).bind fun c9 => if c9 = 3 then r8.bind fun o13 => (xobj p6.2 o13 3).bind fun _ => r8.bind fun o15 => (xgI (xpush p6.2 3 (.inr (3, xdf 3))) o15 3 0).bind fun i14 => (xgA (xpush p6.2 3 (.inr (3, xdf 3))) a0 6 5).bind fun r16 => r16.bind fun o18 => (xobj (xpush p6.2 3 (.inr (3, xdf 3))) o18 1).bind fun _ => (ev 8 0 [some (xA r16)] [] (xpush p6.2 3 (.inr (3, xdf 3)))).bind fun p17 => xrI p17.1 fun i19 => (ev 17 0 [some (xA (some p6.2.1)), some (xI i14), some (xI i19), none] [] p17.2).bind fun p20 => xrV p20.1 (ev 61 86 [some (xA (some a0)), none, some (xI n2), some (xI n3), none, some (xA r8), some (xA (some p6.2.1)), some (xI (0 : Int32)), none] [] p20.2) else if c9 = 5 then (ev 76 0 [some (xA r8)] [] p6.2).bind fun p21 => xrI p21.1 fun i22 => some (some (xI i22), p21.2) else none else if n2 = (1 : Int32) then (xgA p3.2 a0 6 0).bind fun r23 => r23.bind fun o25 => (xobj p3.2 o25 0).bind fun _ => (ev 1 0 [some (xA r23), some (xI n1)] [] p3.2).bind fun p24 => xrA p24.1 fun r26 => if r26 = none then (ev 76 0 [some (xA r26)] [] p24.2).bind fun p28 => xrI p28.1 fun i29 => some (some (xI i29), p28.2) else r26.bind fun o30 => (xcno p24.2 o30).bind fun c27 => if c27 = 3 then r26.bind fun o31 => (xobj p24.2 o31 3).bind fun _ => r26.bind fun o33 => (xgI (xpush p24.2 3 (.inr (3, xdf 3))) o33 3 0).bind fun i32 => (xgA (xpush p24.2 3 (.inr (3, xdf 3))) a0 6 5).bind fun r34 => r34.bind fun o36 => (xobj (xpush p24.2 3 (.inr (3, xdf 3))) o36 1).bind fun _ => (ev 8 0 [some (xA r34)] [] (xpush p24.2 3 (.inr (3, xdf 3)))).bind fun p35 => xrI p35.1 fun i37 => (ev 17 0 [some (xA (some p24.2.1)), some (xI i32), some (xI i37), none] [] p35.2).bind fun p38 => xrV p38.1 (ev 61 86 [some (xA (some a0)), none, some (xI n2), some (xI n3), none, some (xA r26), some (xA (some p24.2.1)), some (xI (0 : Int32)), none] [] p38.2) else if c27 = 5 then (ev 76 0 [some (xA r26)] [] p24.2).bind fun p39 => xrI p39.1 fun i40 => some (some (xI i40), p39.2) else none else some (some (xI (-2 : Int32)), p3.2)
set_option maxRecDepth 100000 in
set_option maxHeartbeats 4000000 in
theorem r_X7_gather_0 (ev : Nat → xK) (a0 : Nat) (n1 : Int32) (n2 : Int32) (n3 : Int32) (w : xW) : xstp (xca ev 61) 61 (xgo (xca ev 61) 61 (ev 61) 36) 0 [some (xA (some a0)), some (xI n1), some (xI n2), some (xI n3), none, none, none, none, none] [] w = b_X7_gather_0 ev a0 n1 n2 n3 w := rfl
theorem e_X7_gather_0 (a0 : Nat) (n1 : Int32) (n2 : Int32) (n3 : Int32) (w : xW) : xev 61 0 [some (xA (some a0)), some (xI n1), some (xI n2), some (xI n3), none, none, none, none, none] [] w = b_X7_gather_0 xev a0 n1 n2 n3 w := (xev_go 61 36 0 [some (xA (some a0)), some (xI n1), some (xI n2), some (xI n3), none, none, none, none, none] [] w).trans (r_X7_gather_0 xev a0 n1 n2 n3 w)
def b_X7_gather_86 (ev : Nat → xK) (a0 : Nat) (n2 : Int32) (n3 : Int32) (a5 : Nat) (a6 : Nat) (n7 : Int32) (w : xW) : Option xR := (xgA w a0 6 5).bind fun r1 => r1.bind fun o3 => (xobj w o3 1).bind fun _ => (ev 8 0 [some (xA r1)] [] w).bind fun p2 => xrI p2.1 fun i4 => if n7 < i4 then (xgA p2.2 a0 6 5).bind fun r5 => r5.bind fun o7 => (xobj p2.2 o7 1).bind fun _ => (ev 10 0 [some (xA r5), some (xI n7), some (xI n2)] [] p2.2).bind fun p6 => xrI p6.1 fun i8 => (xobj p6.2 a5 3).bind fun _ => (ev 20 0 [some (xA (some a5)), some (xI i8)] [] p6.2).bind fun p9 => xrI p9.1 fun i10 => if i10 = 0 then some (some (xI (4 : Int32)), p9.2) else (xobj p9.2 a5 3).bind fun _ => (ev 21 0 [some (xA (some a5)), some (xI i8)] [] p9.2).bind fun p11 => xrA p11.1 fun r12 => (xobj p11.2 a6 3).bind fun _ => (ev 22 0 [some (xA (some a6)), some (xI n7), some (xA r12)] [] p11.2).bind fun p13 => xrV p13.1 (ev 61 86 [some (xA (some a0)), none, some (xI n2), some (xI n3), none, some (xA (some a5)), some (xA (some a6)), some (xI (n7 + (1 : Int32))), none] [] p13.2) else (xgA p2.2 a0 6 0).bind fun r14 => r14.bind fun o16 => (xobj p2.2 o16 0).bind fun _ => (ev 2 0 [some (xA r14), some (xI n3), some (xA (some a6))] [] p2.2).bind fun p15 => xrV p15.1 (some (some (xI (0 : Int32)), p15.2))
set_option maxRecDepth 100000 in
set_option maxHeartbeats 4000000 in
theorem r_X7_gather_86 (ev : Nat → xK) (a0 : Nat) (n2 : Int32) (n3 : Int32) (a5 : Nat) (a6 : Nat) (n7 : Int32) (w : xW) : xstp (xca ev 61) 61 (xgo (xca ev 61) 61 (ev 61) 25) 86 [some (xA (some a0)), none, some (xI n2), some (xI n3), none, some (xA (some a5)), some (xA (some a6)), some (xI n7), none] [] w = b_X7_gather_86 ev a0 n2 n3 a5 a6 n7 w := rfl
theorem e_X7_gather_86 (a0 : Nat) (n2 : Int32) (n3 : Int32) (a5 : Nat) (a6 : Nat) (n7 : Int32) (w : xW) : xev 61 86 [some (xA (some a0)), none, some (xI n2), some (xI n3), none, some (xA (some a5)), some (xA (some a6)), some (xI n7), none] [] w = b_X7_gather_86 xev a0 n2 n3 a5 a6 n7 w := (xev_go 61 25 86 [some (xA (some a0)), none, some (xI n2), some (xI n3), none, some (xA (some a5)), some (xA (some a6)), some (xI n7), none] [] w).trans (r_X7_gather_86 xev a0 n2 n3 a5 a6 n7 w)
end
section
def b_X7_image_0 (ev : Nat → xK) (a0 : Nat) (n1 : Int32) (w : xW) : Option xR := (ev 69 0 [some (xI n1)] [] w).bind fun p1 => xrI p1.1 fun i2 => if i2 = 0 then some (some (xI (-2 : Int32)), p1.2) else (xgA p1.2 a0 6 1).bind fun r3 => (xgA p1.2 a0 6 0).bind fun r4 => r4.bind fun o6 => (xobj p1.2 o6 0).bind fun _ => (ev 3 0 [some (xA r4), none, none, none, none, none] [] p1.2).bind fun p5 => xrA p5.1 fun r7 => r3.bind fun o9 => r7.bind fun o10 => (xsA p5.2 o9 n1 o10).bind fun w8 => some (some (xI (1 : Int32)), w8)
set_option maxRecDepth 100000 in
set_option maxHeartbeats 4000000 in
theorem r_X7_image_0 (ev : Nat → xK) (a0 : Nat) (n1 : Int32) (w : xW) : xstp (xca ev 62) 62 (xgo (xca ev 62) 62 (ev 62) 13) 0 [some (xA (some a0)), some (xI n1)] [] w = b_X7_image_0 ev a0 n1 w := rfl
theorem e_X7_image_0 (a0 : Nat) (n1 : Int32) (w : xW) : xev 62 0 [some (xA (some a0)), some (xI n1)] [] w = b_X7_image_0 xev a0 n1 w := (xev_go 62 13 0 [some (xA (some a0)), some (xI n1)] [] w).trans (r_X7_image_0 xev a0 n1 w)
def b_X7_restore_0 (ev : Nat → xK) (a0 : Nat) (n1 : Int32) (w : xW) : Option xR := (ev 69 0 [some (xI n1)] [] w).bind fun p1 => xrI p1.1 fun i2 => if i2 = 0 then some (some (xI (-2 : Int32)), p1.2) else (xgA p1.2 a0 6 1).bind fun r3 => r3.bind fun o5 => (xaA p1.2 o5 n1).bind fun r4 => if r4 = none then some (some (xI (-3 : Int32)), p1.2) else r4.bind fun o7 => (xobj p1.2 o7 0).bind fun _ => (ev 3 0 [some (xA r4), none, none, none, none, none] [] p1.2).bind fun p6 => xrA p6.1 fun r8 => (xput p6.2 a0 6 0 (xA r8)).bind fun w9 => some (some (xI (1 : Int32)), w9)
set_option maxRecDepth 100000 in
set_option maxHeartbeats 4000000 in
theorem r_X7_restore_0 (ev : Nat → xK) (a0 : Nat) (n1 : Int32) (w : xW) : xstp (xca ev 63) 63 (xgo (xca ev 63) 63 (ev 63) 17) 0 [some (xA (some a0)), some (xI n1), none] [] w = b_X7_restore_0 ev a0 n1 w := rfl
theorem e_X7_restore_0 (a0 : Nat) (n1 : Int32) (w : xW) : xev 63 0 [some (xA (some a0)), some (xI n1), none] [] w = b_X7_restore_0 xev a0 n1 w := (xev_go 63 17 0 [some (xA (some a0)), some (xI n1), none] [] w).trans (r_X7_restore_0 xev a0 n1 w)
def b_X7_met_0 (ev : Nat → xK) (a0 : Nat) (n1 : Int32) (n2 : Int32) (w : xW) : Option xR := if n1 < 0 then some (some (xI (-2 : Int32)), w) else if n1 < (19 : Int32) then if n2 < 0 then some (some (xI (-2 : Int32)), w) else if n2 < (6 : Int32) then (xgA w a0 6 11).bind fun r1 => r1.bind fun o3 => (xobj w o3 4).bind fun _ => (ev 29 0 [some (xA r1), some (xI n1), some (xI n2)] [] w).bind fun p2 => xrI p2.1 fun i4 => some (some (xI i4), p2.2) else some (some (xI (-2 : Int32)), w) else some (some (xI (-2 : Int32)), w)
set_option maxRecDepth 100000 in
set_option maxHeartbeats 4000000 in
theorem r_X7_met_0 (ev : Nat → xK) (a0 : Nat) (n1 : Int32) (n2 : Int32) (w : xW) : xstp (xca ev 64) 64 (xgo (xca ev 64) 64 (ev 64) 17) 0 [some (xA (some a0)), some (xI n1), some (xI n2)] [] w = b_X7_met_0 ev a0 n1 n2 w := rfl
theorem e_X7_met_0 (a0 : Nat) (n1 : Int32) (n2 : Int32) (w : xW) : xev 64 0 [some (xA (some a0)), some (xI n1), some (xI n2)] [] w = b_X7_met_0 xev a0 n1 n2 w := (xev_go 64 17 0 [some (xA (some a0)), some (xI n1), some (xI n2)] [] w).trans (r_X7_met_0 xev a0 n1 n2 w)
def b_X7_count_0 (ev : Nat → xK) (a0 : Nat) (n1 : Int32) (w : xW) : Option xR := if n1 = Int32.ofInt 0 then (xgI w a0 6 12).bind fun i1 => some (some (xI i1), w) else if n1 = Int32.ofInt 1 then (xgA w a0 6 5).bind fun r2 => r2.bind fun o4 => (xobj w o4 1).bind fun _ => (ev 8 0 [some (xA r2)] [] w).bind fun p3 => xrI p3.1 fun i5 => some (some (xI i5), p3.2) else if n1 = Int32.ofInt 2 then (xgA w a0 6 4).bind fun r6 => if r6 = none then some (some (xI (-6 : Int32)), w) else (xgA w a0 6 4).bind fun r7 => r7.bind fun o9 => (xobj w o9 3).bind fun _ => (ev 19 0 [some (xA r7)] [] w).bind fun p8 => xrI p8.1 fun i10 => some (some (xI i10), p8.2) else if n1 = Int32.ofInt 3 then (xgA w a0 6 4).bind fun r11 => if r11 = none then some (some (xI (-6 : Int32)), w) else (xgA w a0 6 4).bind fun r12 => r12.bind fun o14 => (xgI w o14 3 0).bind fun i13 => some (some (xI i13), w) else if n1 = Int32.ofInt 4 then (xgI w a0 6 10).bind fun i15 => some (some (xI i15), w) else if n1 = Int32.ofInt 5 then (xgA w a0 6 11).bind fun r16 => r16.bind fun o18 => (xobj w o18 4).bind fun _ => (ev 30 0 [some (xA r16), none, none] [] w).bind fun p17 => xrI p17.1 fun i19 => some (some (xI i19), p17.2) else if n1 < (10 : Int32) then some (some (xI (-2 : Int32)), w) else if n1 < (20 : Int32) then (xgA w a0 6 0).bind fun r20 => r20.bind fun o22 => (xobj w o22 0).bind fun _ => (ev 1 0 [some (xA r20), some (xI (n1 - (10 : Int32)))] [] w).bind fun p21 => xrA p21.1 fun r23 => r23.bind fun o27 => (xcno p21.2 o27).bind fun c24 => (if c24 = 3 then ev 18 0 [some (xA r23)] [] p21.2 else if c24 = 5 then ev 34 0 [some (xA r23)] [] p21.2 else none).bind fun p25 => xrI p25.1 fun i26 => some (some (xI i26), p25.2) else some (some (xI (-2 : Int32)), w)
set_option maxRecDepth 100000 in
set_option maxHeartbeats 4000000 in
theorem r_X7_count_0 (ev : Nat → xK) (a0 : Nat) (n1 : Int32) (w : xW) : xstp (xca ev 65) 65 (xgo (xca ev 65) 65 (ev 65) 18) 0 [some (xA (some a0)), some (xI n1)] [] w = b_X7_count_0 ev a0 n1 w := rfl
theorem e_X7_count_0 (a0 : Nat) (n1 : Int32) (w : xW) : xev 65 0 [some (xA (some a0)), some (xI n1)] [] w = b_X7_count_0 xev a0 n1 w := (xev_go 65 18 0 [some (xA (some a0)), some (xI n1)] [] w).trans (r_X7_count_0 xev a0 n1 w)
def b_X7_isColumn_0 (ev : Nat → xK) (n0 : Int32) (w : xW) : Option xR := if n0 < 0 then some (some (xI (0 : Int32)), w) else if n0 < (10 : Int32) then some (some (xI (1 : Int32)), w) else some (some (xI (0 : Int32)), w)
set_option maxRecDepth 100000 in
set_option maxHeartbeats 4000000 in
theorem r_X7_isColumn_0 (ev : Nat → xK) (n0 : Int32) (w : xW) : xstp (xca ev 66) 66 (xgo (xca ev 66) 66 (ev 66) 9) 0 [some (xI n0)] [] w = b_X7_isColumn_0 ev n0 w := rfl
theorem e_X7_isColumn_0 (n0 : Int32) (w : xW) : xev 66 0 [some (xI n0)] [] w = b_X7_isColumn_0 xev n0 w := (xev_go 66 9 0 [some (xI n0)] [] w).trans (r_X7_isColumn_0 xev n0 w)
def b_X7_isNumberType_0 (ev : Nat → xK) (n0 : Int32) (w : xW) : Option xR := if n0 < 0 then some (some (xI (0 : Int32)), w) else if (7 : Int32) < n0 then some (some (xI (0 : Int32)), w) else some (some (xI (1 : Int32)), w)
set_option maxRecDepth 100000 in
set_option maxHeartbeats 4000000 in
theorem r_X7_isNumberType_0 (ev : Nat → xK) (n0 : Int32) (w : xW) : xstp (xca ev 67) 67 (xgo (xca ev 67) 67 (ev 67) 9) 0 [some (xI n0)] [] w = b_X7_isNumberType_0 ev n0 w := rfl
theorem e_X7_isNumberType_0 (n0 : Int32) (w : xW) : xev 67 0 [some (xI n0)] [] w = b_X7_isNumberType_0 xev n0 w := (xev_go 67 9 0 [some (xI n0)] [] w).trans (r_X7_isNumberType_0 xev n0 w)
def b_X7_isLabel_0 (ev : Nat → xK) (v0 : Int64) (w : xW) : Option xR := if lg_cmp v0 (0 : Int64) < 0 then some (some (xI (0 : Int32)), w) else if 0 < lg_cmp v0 (99 : Int64) then some (some (xI (0 : Int32)), w) else some (some (xI (1 : Int32)), w)
set_option maxRecDepth 100000 in
set_option maxHeartbeats 4000000 in
theorem r_X7_isLabel_0 (ev : Nat → xK) (v0 : Int64) (w : xW) : xstp (xca ev 68) 68 (xgo (xca ev 68) 68 (ev 68) 12) 0 [some (xJ v0), none] [] w = b_X7_isLabel_0 ev v0 w := rfl
theorem e_X7_isLabel_0 (v0 : Int64) (w : xW) : xev 68 0 [some (xJ v0), none] [] w = b_X7_isLabel_0 xev v0 w := (xev_go 68 12 0 [some (xJ v0), none] [] w).trans (r_X7_isLabel_0 xev v0 w)
def b_X7_isImage_0 (ev : Nat → xK) (n0 : Int32) (w : xW) : Option xR := if n0 < 0 then some (some (xI (0 : Int32)), w) else if n0 < (2 : Int32) then some (some (xI (1 : Int32)), w) else some (some (xI (0 : Int32)), w)
set_option maxRecDepth 100000 in
set_option maxHeartbeats 4000000 in
theorem r_X7_isImage_0 (ev : Nat → xK) (n0 : Int32) (w : xW) : xstp (xca ev 69) 69 (xgo (xca ev 69) 69 (ev 69) 9) 0 [some (xI n0)] [] w = b_X7_isImage_0 ev n0 w := rfl
theorem e_X7_isImage_0 (n0 : Int32) (w : xW) : xev 69 0 [some (xI n0)] [] w = b_X7_isImage_0 xev n0 w := (xev_go 69 9 0 [some (xI n0)] [] w).trans (r_X7_isImage_0 xev n0 w)
def b_X7_canBeOpened_0 (ev : Nat → xK) (n0 : Int32) (n1 : Int32) (w : xW) : Option xR := if n0 < 0 then if n0 = (13 : Int32) then some (some (xI (1 : Int32)), w) else if n0 = (15 : Int32) then some (some (xI (1 : Int32)), w) else if n0 = (14 : Int32) then (ev 68 0 [some (xJ n1.toInt64), none] [] w).bind fun p1 => xrI p1.1 fun i2 => if i2 = 0 then some (some (xI (0 : Int32)), p1.2) else some (some (xI (1 : Int32)), p1.2) else some (some (xI (0 : Int32)), w) else if (12 : Int32) < n0 then if n0 = (13 : Int32) then some (some (xI (1 : Int32)), w) else if n0 = (15 : Int32) then some (some (xI (1 : Int32)), w) else if n0 = (14 : Int32) then (ev 68 0 [some (xJ n1.toInt64), none] [] w).bind fun p3 => xrI p3.1 fun i4 => if i4 = 0 then some (some (xI (0 : Int32)), p3.2) else some (some (xI (1 : Int32)), p3.2) else some (some (xI (0 : Int32)), w) else if n1 < 0 then some (some (xI (0 : Int32)), w) else if (24 : Int32) < n1 then some (some (xI (0 : Int32)), w) else some (some (xI (1 : Int32)), w)
set_option maxRecDepth 100000 in
set_option maxHeartbeats 4000000 in
theorem r_X7_canBeOpened_0 (ev : Nat → xK) (n0 : Int32) (n1 : Int32) (w : xW) : xstp (xca ev 70) 70 (xgo (xca ev 70) 70 (ev 70) 22) 0 [some (xI n0), some (xI n1)] [] w = b_X7_canBeOpened_0 ev n0 n1 w := rfl
theorem e_X7_canBeOpened_0 (n0 : Int32) (n1 : Int32) (w : xW) : xev 70 0 [some (xI n0), some (xI n1)] [] w = b_X7_canBeOpened_0 xev n0 n1 w := (xev_go 70 22 0 [some (xI n0), some (xI n1)] [] w).trans (r_X7_canBeOpened_0 xev n0 n1 w)
def b_X7_homesOf_0 (ev : Nat → xK) (n0 : Int32) (w : xW) : Option xR := if n0 < 0 then some (some (xI (0 : Int32)), w) else (xlen w w.2.2.1).bind fun i1 => if n0 < i1 then (xaI w w.2.2.1 n0).bind fun i2 => some (some (xI i2), w) else some (some (xI (0 : Int32)), w)
set_option maxRecDepth 100000 in
set_option maxHeartbeats 4000000 in
theorem r_X7_homesOf_0 (ev : Nat → xK) (n0 : Int32) (w : xW) : xstp (xca ev 71) 71 (xgo (xca ev 71) 71 (ev 71) 12) 0 [some (xI n0)] [] w = b_X7_homesOf_0 ev n0 w := rfl
theorem e_X7_homesOf_0 (n0 : Int32) (w : xW) : xev 71 0 [some (xI n0)] [] w = b_X7_homesOf_0 xev n0 w := (xev_go 71 12 0 [some (xI n0)] [] w).trans (r_X7_homesOf_0 xev n0 w)
def b_X7_fitsInto_0 (ev : Nat → xK) (n0 : Int32) (n1 : Int32) (w : xW) : Option xR := (ev 71 0 [some (xI n1)] [] w).bind fun p1 => xrI p1.1 fun i2 => if (i2 >>> (n0 &&& 31)) &&& (1 : Int32) = (1 : Int32) then some (some (xI (1 : Int32)), p1.2) else some (some (xI (0 : Int32)), p1.2)
set_option maxRecDepth 100000 in
set_option maxHeartbeats 4000000 in
theorem r_X7_fitsInto_0 (ev : Nat → xK) (n0 : Int32) (n1 : Int32) (w : xW) : xstp (xca ev 72) 72 (xgo (xca ev 72) 72 (ev 72) 12) 0 [some (xI n0), some (xI n1)] [] w = b_X7_fitsInto_0 ev n0 n1 w := rfl
theorem e_X7_fitsInto_0 (n0 : Int32) (n1 : Int32) (w : xW) : xev 72 0 [some (xI n0), some (xI n1)] [] w = b_X7_fitsInto_0 xev n0 n1 w := (xev_go 72 12 0 [some (xI n0), some (xI n1)] [] w).trans (r_X7_fitsInto_0 xev n0 n1 w)
def b_X7_opened_0 (ev : Nat → xK) (a0 : Nat) (n1 : Int32) (n2 : Int32) (w : xW) : Option xR := if n1 = Int32.ofInt 13 then (xobj w a0 6).bind fun _ => (ev 74 0 [some (xA (some a0)), some (xI (8 : Int32)), some (xI n2)] [] w).bind fun p1 => xrA p1.1 fun r2 => some (some (xA r2), p1.2) else if n1 = Int32.ofInt 14 then (ev 31 0 [some (xA (some w.1)), some (xI (10 : Int32)), some (xJ n2.toInt64), none, some (xD (0 : UInt64)), none] [] (xpush w 3 (.inr (5, xdf 5)))).bind fun p3 => xrV p3.1 (some (some (xA (some w.1)), p3.2)) else if n1 = Int32.ofInt 15 then (ev 31 0 [some (xA (some w.1)), some (xI (11 : Int32)), some (xJ (0 : Int64)), none, some (xD (0 : UInt64)), none] [] (xpush w 3 (.inr (5, xdf 5)))).bind fun p4 => xrV p4.1 (some (some (xA (some w.1)), p4.2)) else (ev 17 0 [some (xA (some w.1)), some (xI n1), some (xI n2), none] [] (xpush w 3 (.inr (3, xdf 3)))).bind fun p5 => xrV p5.1 (some (some (xA (some w.1)), p5.2))
set_option maxRecDepth 100000 in
set_option maxHeartbeats 4000000 in
theorem r_X7_opened_0 (ev : Nat → xK) (a0 : Nat) (n1 : Int32) (n2 : Int32) (w : xW) : xstp (xca ev 73) 73 (xgo (xca ev 73) 73 (ev 73) 11) 0 [some (xA (some a0)), some (xI n1), some (xI n2)] [] w = b_X7_opened_0 ev a0 n1 n2 w := rfl
theorem e_X7_opened_0 (a0 : Nat) (n1 : Int32) (n2 : Int32) (w : xW) : xev 73 0 [some (xA (some a0)), some (xI n1), some (xI n2)] [] w = b_X7_opened_0 xev a0 n1 n2 w := (xev_go 73 11 0 [some (xA (some a0)), some (xI n1), some (xI n2)] [] w).trans (r_X7_opened_0 xev a0 n1 n2 w)
def b_X7_newStone_0 (ev : Nat → xK) (a0 : Nat) (n1 : Int32) (n2 : Int32) (w : xW) : Option xR := (xgI w a0 6 10).bind fun i1 => (xgA w a0 6 9).bind fun r2 => r2.bind fun o4 => (xlen w o4).bind fun i3 => if i1 < i3 then (xgA w a0 6 9).bind fun r5 => (xgI w a0 6 10).bind fun i6 => r5.bind fun o8 => (xsI w o8 i6 n2).bind fun w7 => (xgI w7 a0 6 10).bind fun i9 => (xput w7 a0 6 10 (xI (i9 + (1 : Int32)))).bind fun w10 => (xgI (xpush w10 3 (.inr (5, xdf 5))) a0 6 10).bind fun i11 => (ev 31 0 [some (xA (some w10.1)), some (xI n1), some (xJ i11.toInt64), none, some (xD (0 : UInt64)), none] [] (xpush w10 3 (.inr (5, xdf 5)))).bind fun p12 => xrV p12.1 (some (some (xA (some w10.1)), p12.2)) else (xgI (xpush w 3 (.inr (5, xdf 5))) a0 6 10).bind fun i13 => (ev 31 0 [some (xA (some w.1)), some (xI n1), some (xJ i13.toInt64), none, some (xD (0 : UInt64)), none] [] (xpush w 3 (.inr (5, xdf 5)))).bind fun p14 => xrV p14.1 (some (some (xA (some w.1)), p14.2))
set_option maxRecDepth 100000 in
set_option maxHeartbeats 4000000 in
theorem r_X7_newStone_0 (ev : Nat → xK) (a0 : Nat) (n1 : Int32) (n2 : Int32) (w : xW) : xstp (xca ev 74) 74 (xgo (xca ev 74) 74 (ev 74) 28) 0 [some (xA (some a0)), some (xI n1), some (xI n2)] [] w = b_X7_newStone_0 ev a0 n1 n2 w := rfl
theorem e_X7_newStone_0 (a0 : Nat) (n1 : Int32) (n2 : Int32) (w : xW) : xev 74 0 [some (xA (some a0)), some (xI n1), some (xI n2)] [] w = b_X7_newStone_0 xev a0 n1 n2 w := (xev_go 74 28 0 [some (xA (some a0)), some (xI n1), some (xI n2)] [] w).trans (r_X7_newStone_0 xev a0 n1 n2 w)
def b_X7_weightOf_0 (ev : Nat → xK) (a0 : Nat) (a1 : Nat) (w : xW) : Option xR := (xgJ w a1 5 1).bind fun j1 => if j1.toInt32 - (1 : Int32) < 0 then some (some (xI (0 : Int32)), w) else (xgA w a0 6 9).bind fun r2 => r2.bind fun o4 => (xlen w o4).bind fun i3 => if j1.toInt32 - (1 : Int32) < i3 then (xgA w a0 6 9).bind fun r5 => r5.bind fun o7 => (xaI w o7 (j1.toInt32 - (1 : Int32))).bind fun i6 => some (some (xI i6), w) else some (some (xI (0 : Int32)), w)
set_option maxRecDepth 100000 in
set_option maxHeartbeats 4000000 in
theorem r_X7_weightOf_0 (ev : Nat → xK) (a0 : Nat) (a1 : Nat) (w : xW) : xstp (xca ev 75) 75 (xgo (xca ev 75) 75 (ev 75) 20) 0 [some (xA (some a0)), some (xA (some a1)), none] [] w = b_X7_weightOf_0 ev a0 a1 w := rfl
theorem e_X7_weightOf_0 (a0 : Nat) (a1 : Nat) (w : xW) : xev 75 0 [some (xA (some a0)), some (xA (some a1)), none] [] w = b_X7_weightOf_0 xev a0 a1 w := (xev_go 75 20 0 [some (xA (some a0)), some (xA (some a1)), none] [] w).trans (r_X7_weightOf_0 xev a0 a1 w)
def b_X7_answerToLength_0 (ev : Nat → xK) (a0 : Nat) (w : xW) : Option xR := (xcno w a0).bind fun c1 => if c1 = 3 then some (some (xI (0 : Int32)), w) else if c1 = 5 then (xcno w a0).bind fun c2 => (if c2 = 3 then ev 18 0 [some (xA (some a0))] [] w else if c2 = 5 then ev 34 0 [some (xA (some a0))] [] w else none).bind fun p3 => xrI p3.1 fun i4 => if i4 = (15 : Int32) then some (some (xI (1 : Int32)), p3.2) else some (some (xI (2 : Int32)), p3.2) else none
set_option maxRecDepth 100000 in
set_option maxHeartbeats 4000000 in
theorem r_X7_answerToLength_0 (ev : Nat → xK) (a0 : Nat) (w : xW) : xstp (xca ev 76) 76 (xgo (xca ev 76) 76 (ev 76) 11) 0 [some (xA (some a0))] [] w = b_X7_answerToLength_0 ev a0 w := rfl
theorem e_X7_answerToLength_0 (a0 : Nat) (w : xW) : xev 76 0 [some (xA (some a0))] [] w = b_X7_answerToLength_0 xev a0 w := (xev_go 76 11 0 [some (xA (some a0))] [] w).trans (r_X7_answerToLength_0 xev a0 w)
def b_X7_answerToNumber_0 (ev : Nat → xK) (a0 : Nat) (n1 : Int32) (w : xW) : Option xR := (xcno w a0).bind fun c1 => if c1 = 3 then (xobj w a0 3).bind fun _ => (xgI w a0 3 0).bind fun i2 => (ev 67 0 [some (xI i2)] [] w).bind fun p3 => xrI p3.1 fun i4 => if i4 = 0 then some (some (xI (3 : Int32)), p3.2) else (xobj p3.2 a0 3).bind fun _ => (ev 20 0 [some (xA (some a0)), some (xI n1)] [] p3.2).bind fun p5 => xrI p5.1 fun i6 => if i6 = 0 then some (some (xI (4 : Int32)), p5.2) else some (some (xI (0 : Int32)), p5.2) else if c1 = 5 then (ev 76 0 [some (xA (some a0))] [] w).bind fun p7 => xrI p7.1 fun i8 => some (some (xI i8), p7.2) else none
set_option maxRecDepth 100000 in
set_option maxHeartbeats 4000000 in
theorem r_X7_answerToNumber_0 (ev : Nat → xK) (a0 : Nat) (n1 : Int32) (w : xW) : xstp (xca ev 77) 77 (xgo (xca ev 77) 77 (ev 77) 19) 0 [some (xA (some a0)), some (xI n1), none] [] w = b_X7_answerToNumber_0 ev a0 n1 w := rfl
theorem e_X7_answerToNumber_0 (a0 : Nat) (n1 : Int32) (w : xW) : xev 77 0 [some (xA (some a0)), some (xI n1), none] [] w = b_X7_answerToNumber_0 xev a0 n1 w := (xev_go 77 19 0 [some (xA (some a0)), some (xI n1), none] [] w).trans (r_X7_answerToNumber_0 xev a0 n1 w)
def b_X7_accessToRead_0 (ev : Nat → xK) (a0 : Nat) (n1 : Int32) (n2 : Int32) (n3 : Int32) (w : xW) : Option xR := (xgA w a0 6 0).bind fun r1 => r1.bind fun o3 => (xobj w o3 0).bind fun _ => (ev 1 0 [some (xA r1), some (xI n1)] [] w).bind fun p2 => xrA p2.1 fun r4 => (ev 77 0 [some (xA r4), some (xI n2), none] [] p2.2).bind fun p5 => xrI p5.1 fun i6 => if i6 = 0 then if r4 = none then (xgA p5.2 a0 6 11).bind fun r8 => r8.bind fun o10 => (xobj p5.2 o10 4).bind fun _ => (ev 28 0 [some (xA r8), some (xI n3), some (xI i6)] [] p5.2).bind fun p9 => xrI p9.1 fun i11 => some (some (xI i11), p9.2) else r4.bind fun o12 => (xcno p5.2 o12).bind fun c7 => if c7 = 3 then r4.bind fun o13 => (xobj p5.2 o13 3).bind fun _ => r4.bind fun o15 => (xgI p5.2 o15 3 0).bind fun i14 => (ev 72 0 [some (xI n3), some (xI i14)] [] p5.2).bind fun p16 => xrI p16.1 fun i17 => if i17 = 0 then (xgA p16.2 a0 6 11).bind fun r18 => r18.bind fun o20 => (xobj p16.2 o20 4).bind fun _ => (ev 28 0 [some (xA r18), some (xI n3), some (xI (5 : Int32))] [] p16.2).bind fun p19 => xrI p19.1 fun i21 => some (some (xI i21), p19.2) else r4.bind fun o23 => (xobj p16.2 o23 3).bind fun _ => (ev 21 0 [some (xA r4), some (xI n2)] [] p16.2).bind fun p22 => xrA p22.1 fun r24 => r24.bind fun o26 => (xobj p22.2 o26 5).bind fun _ => (ev 35 0 [some (xA r24), some (xI n3)] [] p22.2).bind fun p25 => xrA p25.1 fun r27 => (xput p25.2 a0 6 2 (xA r27)).bind fun w28 => (xgA w28 a0 6 11).bind fun r29 => r29.bind fun o31 => (xobj w28 o31 4).bind fun _ => (ev 28 0 [some (xA r29), some (xI n3), some (xI i6)] [] w28).bind fun p30 => xrI p30.1 fun i32 => some (some (xI i32), p30.2) else if c7 = 5 then (xgA p5.2 a0 6 11).bind fun r33 => r33.bind fun o35 => (xobj p5.2 o35 4).bind fun _ => (ev 28 0 [some (xA r33), some (xI n3), some (xI i6)] [] p5.2).bind fun p34 => xrI p34.1 fun i36 => some (some (xI i36), p34.2) else none else (xgA p5.2 a0 6 11).bind fun r37 => r37.bind fun o39 => (xobj p5.2 o39 4).bind fun _ => (ev 28 0 [some (xA r37), some (xI n3), some (xI i6)] [] p5.2).bind fun p38 => xrI p38.1 fun i40 => some (some (xI i40), p38.2)
set_option maxRecDepth 100000 in
set_option maxHeartbeats 4000000 in
theorem r_X7_accessToRead_0 (ev : Nat → xK) (a0 : Nat) (n1 : Int32) (n2 : Int32) (n3 : Int32) (w : xW) : xstp (xca ev 78) 78 (xgo (xca ev 78) 78 (ev 78) 37) 0 [some (xA (some a0)), some (xI n1), some (xI n2), some (xI n3), none, none, none] [] w = b_X7_accessToRead_0 ev a0 n1 n2 n3 w := rfl
theorem e_X7_accessToRead_0 (a0 : Nat) (n1 : Int32) (n2 : Int32) (n3 : Int32) (w : xW) : xev 78 0 [some (xA (some a0)), some (xI n1), some (xI n2), some (xI n3), none, none, none] [] w = b_X7_accessToRead_0 xev a0 n1 n2 n3 w := (xev_go 78 37 0 [some (xA (some a0)), some (xI n1), some (xI n2), some (xI n3), none, none, none] [] w).trans (r_X7_accessToRead_0 xev a0 n1 n2 n3 w)
def b_X7_accessToWrite_0 (ev : Nat → xK) (a0 : Nat) (n1 : Int32) (n2 : Int32) (a3 : Nat) (w : xW) : Option xR := (xgA w a0 6 0).bind fun r1 => r1.bind fun o3 => (xobj w o3 0).bind fun _ => (ev 1 0 [some (xA r1), some (xI n1)] [] w).bind fun p2 => xrA p2.1 fun r4 => (ev 77 0 [some (xA r4), some (xI n2), none] [] p2.2).bind fun p5 => xrI p5.1 fun i6 => if i6 = 0 then if r4 = none then (xgA p5.2 a0 6 11).bind fun r8 => (xgI p5.2 a3 5 0).bind fun i9 => r8.bind fun o11 => (xobj p5.2 o11 4).bind fun _ => (ev 28 0 [some (xA r8), some (xI ((9 : Int32) + i9)), some (xI i6)] [] p5.2).bind fun p10 => xrI p10.1 fun i12 => some (some (xI i12), p10.2) else r4.bind fun o13 => (xcno p5.2 o13).bind fun c7 => if c7 = 3 then r4.bind fun o14 => (xobj p5.2 o14 3).bind fun _ => (ev 82 0 [some (xA r4), some (xI n2), some (xA (some a3))] [] p5.2).bind fun p15 => xrI p15.1 fun i16 => (xgA p15.2 a0 6 11).bind fun r17 => (xgI p15.2 a3 5 0).bind fun i18 => r17.bind fun o20 => (xobj p15.2 o20 4).bind fun _ => (ev 28 0 [some (xA r17), some (xI ((9 : Int32) + i18)), some (xI i16)] [] p15.2).bind fun p19 => xrI p19.1 fun i21 => some (some (xI i21), p19.2) else if c7 = 5 then (xgA p5.2 a0 6 11).bind fun r22 => (xgI p5.2 a3 5 0).bind fun i23 => r22.bind fun o25 => (xobj p5.2 o25 4).bind fun _ => (ev 28 0 [some (xA r22), some (xI ((9 : Int32) + i23)), some (xI i6)] [] p5.2).bind fun p24 => xrI p24.1 fun i26 => some (some (xI i26), p24.2) else none else (xgA p5.2 a0 6 11).bind fun r27 => (xgI p5.2 a3 5 0).bind fun i28 => r27.bind fun o30 => (xobj p5.2 o30 4).bind fun _ => (ev 28 0 [some (xA r27), some (xI ((9 : Int32) + i28)), some (xI i6)] [] p5.2).bind fun p29 => xrI p29.1 fun i31 => some (some (xI i31), p29.2)
set_option maxRecDepth 100000 in
set_option maxHeartbeats 4000000 in
theorem r_X7_accessToWrite_0 (ev : Nat → xK) (a0 : Nat) (n1 : Int32) (n2 : Int32) (a3 : Nat) (w : xW) : xstp (xca ev 79) 79 (xgo (xca ev 79) 79 (ev 79) 32) 0 [some (xA (some a0)), some (xI n1), some (xI n2), some (xA (some a3)), none, none, none] [] w = b_X7_accessToWrite_0 ev a0 n1 n2 a3 w := rfl
theorem e_X7_accessToWrite_0 (a0 : Nat) (n1 : Int32) (n2 : Int32) (a3 : Nat) (w : xW) : xev 79 0 [some (xA (some a0)), some (xI n1), some (xI n2), some (xA (some a3)), none, none, none] [] w = b_X7_accessToWrite_0 xev a0 n1 n2 a3 w := (xev_go 79 32 0 [some (xA (some a0)), some (xI n1), some (xI n2), some (xA (some a3)), none, none, none] [] w).trans (r_X7_accessToWrite_0 xev a0 n1 n2 a3 w)
def b_X7_accessToTake_0 (ev : Nat → xK) (a0 : Nat) (n1 : Int32) (n2 : Int32) (w : xW) : Option xR := (xgA w a0 6 0).bind fun r1 => r1.bind fun o3 => (xobj w o3 0).bind fun _ => (ev 1 0 [some (xA r1), some (xI n1)] [] w).bind fun p2 => xrA p2.1 fun r4 => (ev 76 0 [some (xA r4)] [] p2.2).bind fun p5 => xrI p5.1 fun i6 => if r4 = none then (xgA p5.2 a0 6 11).bind fun r8 => r8.bind fun o10 => (xobj p5.2 o10 4).bind fun _ => (ev 28 0 [some (xA r8), some (xI (8 : Int32)), some (xI i6)] [] p5.2).bind fun p9 => xrI p9.1 fun i11 => some (some (xI i11), p9.2) else r4.bind fun o12 => (xcno p5.2 o12).bind fun c7 => if c7 = 3 then r4.bind fun o13 => (xobj p5.2 o13 3).bind fun _ => r4.bind fun o15 => (xobj p5.2 o15 3).bind fun _ => (ev 20 0 [some (xA r4), some (xI n2)] [] p5.2).bind fun p14 => xrI p14.1 fun i16 => if i16 = 0 then (xgA p14.2 a0 6 11).bind fun r17 => r17.bind fun o19 => (xobj p14.2 o19 4).bind fun _ => (ev 28 0 [some (xA r17), some (xI (8 : Int32)), some (xI (4 : Int32))] [] p14.2).bind fun p18 => xrI p18.1 fun i20 => some (some (xI i20), p18.2) else r4.bind fun o22 => (xobj p14.2 o22 3).bind fun _ => (ev 21 0 [some (xA r4), some (xI n2)] [] p14.2).bind fun p21 => xrA p21.1 fun r23 => (xput p21.2 a0 6 3 (xA r23)).bind fun w24 => (xgA w24 a0 6 11).bind fun r25 => r25.bind fun o27 => (xobj w24 o27 4).bind fun _ => (ev 28 0 [some (xA r25), some (xI (8 : Int32)), some (xI i6)] [] w24).bind fun p26 => xrI p26.1 fun i28 => some (some (xI i28), p26.2) else if c7 = 5 then (xgA p5.2 a0 6 11).bind fun r29 => r29.bind fun o31 => (xobj p5.2 o31 4).bind fun _ => (ev 28 0 [some (xA r29), some (xI (8 : Int32)), some (xI i6)] [] p5.2).bind fun p30 => xrI p30.1 fun i32 => some (some (xI i32), p30.2) else none
set_option maxRecDepth 100000 in
set_option maxHeartbeats 4000000 in
theorem r_X7_accessToTake_0 (ev : Nat → xK) (a0 : Nat) (n1 : Int32) (n2 : Int32) (w : xW) : xstp (xca ev 80) 80 (xgo (xca ev 80) 80 (ev 80) 31) 0 [some (xA (some a0)), some (xI n1), some (xI n2), none, none, none] [] w = b_X7_accessToTake_0 ev a0 n1 n2 w := rfl
theorem e_X7_accessToTake_0 (a0 : Nat) (n1 : Int32) (n2 : Int32) (w : xW) : xev 80 0 [some (xA (some a0)), some (xI n1), some (xI n2), none, none, none] [] w = b_X7_accessToTake_0 xev a0 n1 n2 w := (xev_go 80 31 0 [some (xA (some a0)), some (xI n1), some (xI n2), none, none, none] [] w).trans (r_X7_accessToTake_0 xev a0 n1 n2 w)
def b_X7_accessToLay_0 (ev : Nat → xK) (a0 : Nat) (n1 : Int32) (n2 : Int32) (w : xW) : Option xR := (xgA w a0 6 0).bind fun r1 => r1.bind fun o3 => (xobj w o3 0).bind fun _ => (ev 1 0 [some (xA r1), some (xI n1)] [] w).bind fun p2 => xrA p2.1 fun r4 => (ev 76 0 [some (xA r4)] [] p2.2).bind fun p5 => xrI p5.1 fun i6 => if r4 = none then (xgA p5.2 a0 6 11).bind fun r8 => r8.bind fun o10 => (xobj p5.2 o10 4).bind fun _ => (ev 28 0 [some (xA r8), some (xI (17 : Int32)), some (xI i6)] [] p5.2).bind fun p9 => xrI p9.1 fun i11 => some (some (xI i11), p9.2) else r4.bind fun o12 => (xcno p5.2 o12).bind fun c7 => if c7 = 3 then r4.bind fun o13 => (xobj p5.2 o13 3).bind fun _ => r4.bind fun o15 => (xobj p5.2 o15 3).bind fun _ => (ev 20 0 [some (xA r4), some (xI n2)] [] p5.2).bind fun p14 => xrI p14.1 fun i16 => if i16 = 0 then (xgA p14.2 a0 6 11).bind fun r17 => r17.bind fun o19 => (xobj p14.2 o19 4).bind fun _ => (ev 28 0 [some (xA r17), some (xI (17 : Int32)), some (xI (4 : Int32))] [] p14.2).bind fun p18 => xrI p18.1 fun i20 => some (some (xI i20), p18.2) else (xgA p14.2 a0 6 3).bind fun r21 => (ev 82 0 [some (xA r4), some (xI n2), some (xA r21)] [] p14.2).bind fun p22 => xrI p22.1 fun i23 => (xgA p22.2 a0 6 11).bind fun r24 => r24.bind fun o26 => (xobj p22.2 o26 4).bind fun _ => (ev 28 0 [some (xA r24), some (xI (17 : Int32)), some (xI i23)] [] p22.2).bind fun p25 => xrI p25.1 fun i27 => some (some (xI i27), p25.2) else if c7 = 5 then (xgA p5.2 a0 6 11).bind fun r28 => r28.bind fun o30 => (xobj p5.2 o30 4).bind fun _ => (ev 28 0 [some (xA r28), some (xI (17 : Int32)), some (xI i6)] [] p5.2).bind fun p29 => xrI p29.1 fun i31 => some (some (xI i31), p29.2) else none
set_option maxRecDepth 100000 in
set_option maxHeartbeats 4000000 in
theorem r_X7_accessToLay_0 (ev : Nat → xK) (a0 : Nat) (n1 : Int32) (n2 : Int32) (w : xW) : xstp (xca ev 81) 81 (xgo (xca ev 81) 81 (ev 81) 32) 0 [some (xA (some a0)), some (xI n1), some (xI n2), none, none, none] [] w = b_X7_accessToLay_0 ev a0 n1 n2 w := rfl
theorem e_X7_accessToLay_0 (a0 : Nat) (n1 : Int32) (n2 : Int32) (w : xW) : xev 81 0 [some (xA (some a0)), some (xI n1), some (xI n2), none, none, none] [] w = b_X7_accessToLay_0 xev a0 n1 n2 w := (xev_go 81 32 0 [some (xA (some a0)), some (xI n1), some (xI n2), none, none, none] [] w).trans (r_X7_accessToLay_0 xev a0 n1 n2 w)
def b_X7_putIfFit_0 (ev : Nat → xK) (a0 : Nat) (n1 : Int32) (a2 : Nat) (w : xW) : Option xR := (xgI w a0 3 0).bind fun i1 => (xgI w a2 5 0).bind fun i2 => (ev 72 0 [some (xI i1), some (xI i2)] [] w).bind fun p3 => xrI p3.1 fun i4 => if i4 = 0 then some (some (xI (5 : Int32)), p3.2) else (xobj p3.2 a0 3).bind fun _ => (ev 22 0 [some (xA (some a0)), some (xI n1), some (xA (some a2))] [] p3.2).bind fun p5 => xrV p5.1 (some (some (xI (0 : Int32)), p5.2))
set_option maxRecDepth 100000 in
set_option maxHeartbeats 4000000 in
theorem r_X7_putIfFit_0 (ev : Nat → xK) (a0 : Nat) (n1 : Int32) (a2 : Nat) (w : xW) : xstp (xca ev 82) 82 (xgo (xca ev 82) 82 (ev 82) 13) 0 [some (xA (some a0)), some (xI n1), some (xA (some a2))] [] w = b_X7_putIfFit_0 ev a0 n1 a2 w := rfl
theorem e_X7_putIfFit_0 (a0 : Nat) (n1 : Int32) (a2 : Nat) (w : xW) : xev 82 0 [some (xA (some a0)), some (xI n1), some (xA (some a2))] [] w = b_X7_putIfFit_0 xev a0 n1 a2 w := (xev_go 82 13 0 [some (xA (some a0)), some (xI n1), some (xA (some a2))] [] w).trans (r_X7_putIfFit_0 xev a0 n1 a2 w)
def b_X7_readAll_0 (ev : Nat → xK) (a0 : Nat) (n1 : Int32) (n2 : Int32) (a3 : Nat) (w : xW) : Option xR := (xobj w a3 2).bind fun _ => (ev 12 0 [some (xA (some a3))] [] w).bind fun p1 => xrV p1.1 (ev 83 10 [some (xA (some a0)), some (xI n1), some (xI n2), some (xA (some a3)), some (xI (0 : Int32)), some (xI (0 : Int32))] [] p1.2)
set_option maxRecDepth 100000 in
set_option maxHeartbeats 4000000 in
theorem r_X7_readAll_0 (ev : Nat → xK) (a0 : Nat) (n1 : Int32) (n2 : Int32) (a3 : Nat) (w : xW) : xstp (xca ev 83) 83 (xgo (xca ev 83) 83 (ev 83) 8) 0 [some (xA (some a0)), some (xI n1), some (xI n2), some (xA (some a3)), none, none] [] w = b_X7_readAll_0 ev a0 n1 n2 a3 w := rfl
theorem e_X7_readAll_0 (a0 : Nat) (n1 : Int32) (n2 : Int32) (a3 : Nat) (w : xW) : xev 83 0 [some (xA (some a0)), some (xI n1), some (xI n2), some (xA (some a3)), none, none] [] w = b_X7_readAll_0 xev a0 n1 n2 a3 w := (xev_go 83 8 0 [some (xA (some a0)), some (xI n1), some (xI n2), some (xA (some a3)), none, none] [] w).trans (r_X7_readAll_0 xev a0 n1 n2 a3 w)
def b_X7_readAll_10 (ev : Nat → xK) (a0 : Nat) (n1 : Int32) (n2 : Int32) (a3 : Nat) (n4 : Int32) (n5 : Int32) (w : xW) : Option xR := if n4 = 0 then if (24 : Int32) < n5 then some (some (xI n4), w) else (xobj w a0 6).bind fun _ => (ev 78 0 [some (xA (some a0)), some (xI n1), some (xI n5), some (xI n2), none, none, none] [] w).bind fun p1 => xrI p1.1 fun i2 => if i2 = 0 then (xgA p1.2 a0 6 2).bind fun r3 => (xobj p1.2 a3 2).bind fun _ => (ev 13 0 [some (xA (some a3)), some (xA r3)] [] p1.2).bind fun p4 => xrV p4.1 (ev 83 10 [some (xA (some a0)), some (xI n1), some (xI n2), some (xA (some a3)), some (xI i2), some (xI (n5 + (1 : Int32)))] [] p4.2) else ev 83 10 [some (xA (some a0)), some (xI n1), some (xI n2), some (xA (some a3)), some (xI i2), some (xI (n5 + (1 : Int32)))] [] p1.2 else some (some (xI n4), w)
set_option maxRecDepth 100000 in
set_option maxHeartbeats 4000000 in
theorem r_X7_readAll_10 (ev : Nat → xK) (a0 : Nat) (n1 : Int32) (n2 : Int32) (a3 : Nat) (n4 : Int32) (n5 : Int32) (w : xW) : xstp (xca ev 83) 83 (xgo (xca ev 83) 83 (ev 83) 21) 10 [some (xA (some a0)), some (xI n1), some (xI n2), some (xA (some a3)), some (xI n4), some (xI n5)] [] w = b_X7_readAll_10 ev a0 n1 n2 a3 n4 n5 w := rfl
theorem e_X7_readAll_10 (a0 : Nat) (n1 : Int32) (n2 : Int32) (a3 : Nat) (n4 : Int32) (n5 : Int32) (w : xW) : xev 83 10 [some (xA (some a0)), some (xI n1), some (xI n2), some (xA (some a3)), some (xI n4), some (xI n5)] [] w = b_X7_readAll_10 xev a0 n1 n2 a3 n4 n5 w := (xev_go 83 21 10 [some (xA (some a0)), some (xI n1), some (xI n2), some (xA (some a3)), some (xI n4), some (xI n5)] [] w).trans (r_X7_readAll_10 xev a0 n1 n2 a3 n4 n5 w)
def b_X7_showIndex_0 (ev : Nat → xK) (a0 : Nat) (n1 : Int32) (w : xW) : Option xR := (ev 31 0 [some (xA (some w.1)), some (xI (4 : Int32)), some (xJ n1.toInt64), none, some (xD (0 : UInt64)), none] [] (xpush w 3 (.inr (5, xdf 5)))).bind fun p1 => xrV p1.1 ((xput p1.2 a0 6 2 (xA (some w.1))).bind fun w2 => some (none, w2))
set_option maxRecDepth 100000 in
set_option maxHeartbeats 4000000 in
theorem r_X7_showIndex_0 (ev : Nat → xK) (a0 : Nat) (n1 : Int32) (w : xW) : xstp (xca ev 84) 84 (xgo (xca ev 84) 84 (ev 84) 11) 0 [some (xA (some a0)), some (xI n1)] [] w = b_X7_showIndex_0 ev a0 n1 w := rfl
theorem e_X7_showIndex_0 (a0 : Nat) (n1 : Int32) (w : xW) : xev 84 0 [some (xA (some a0)), some (xI n1)] [] w = b_X7_showIndex_0 xev a0 n1 w := (xev_go 84 11 0 [some (xA (some a0)), some (xI n1)] [] w).trans (r_X7_showIndex_0 xev a0 n1 w)
def b_X7_draftEqualOnes_0 (ev : Nat → xK) (a0 : Nat) (w : xW) : Option xR := (xgA w a0 6 6).bind fun r1 => r1.bind fun o3 => (xobj w o3 1).bind fun _ => (ev 6 0 [some (xA r1)] [] w).bind fun p2 => xrV p2.1 (ev 85 9 [some (xA (some a0)), some (xI (0 : Int32)), none] [] p2.2)
set_option maxRecDepth 100000 in
set_option maxHeartbeats 4000000 in
theorem r_X7_draftEqualOnes_0 (ev : Nat → xK) (a0 : Nat) (w : xW) : xstp (xca ev 85) 85 (xgo (xca ev 85) 85 (ev 85) 7) 0 [some (xA (some a0)), none, none] [] w = b_X7_draftEqualOnes_0 ev a0 w := rfl
theorem e_X7_draftEqualOnes_0 (a0 : Nat) (w : xW) : xev 85 0 [some (xA (some a0)), none, none] [] w = b_X7_draftEqualOnes_0 xev a0 w := (xev_go 85 7 0 [some (xA (some a0)), none, none] [] w).trans (r_X7_draftEqualOnes_0 xev a0 w)
def b_X7_draftEqualOnes_9 (ev : Nat → xK) (a0 : Nat) (n1 : Int32) (w : xW) : Option xR := (xgA w a0 6 7).bind fun r1 => r1.bind fun o3 => (xobj w o3 2).bind fun _ => (ev 14 0 [some (xA r1)] [] w).bind fun p2 => xrI p2.1 fun i4 => if n1 < i4 then ev 85 22 [some (xA (some a0)), some (xI n1), some (xI (0 : Int32))] [] p2.2 else some (some (xI (1 : Int32)), p2.2)
set_option maxRecDepth 100000 in
set_option maxHeartbeats 4000000 in
theorem r_X7_draftEqualOnes_9 (ev : Nat → xK) (a0 : Nat) (n1 : Int32) (w : xW) : xstp (xca ev 85) 85 (xgo (xca ev 85) 85 (ev 85) 9) 9 [some (xA (some a0)), some (xI n1), none] [] w = b_X7_draftEqualOnes_9 ev a0 n1 w := rfl
theorem e_X7_draftEqualOnes_9 (a0 : Nat) (n1 : Int32) (w : xW) : xev 85 9 [some (xA (some a0)), some (xI n1), none] [] w = b_X7_draftEqualOnes_9 xev a0 n1 w := (xev_go 85 9 9 [some (xA (some a0)), some (xI n1), none] [] w).trans (r_X7_draftEqualOnes_9 xev a0 n1 w)
def b_X7_draftEqualOnes_22 (ev : Nat → xK) (a0 : Nat) (n1 : Int32) (n2 : Int32) (w : xW) : Option xR := (xgA w a0 6 8).bind fun r1 => r1.bind fun o3 => (xobj w o3 2).bind fun _ => (ev 14 0 [some (xA r1)] [] w).bind fun p2 => xrI p2.1 fun i4 => if n2 < i4 then (xgA p2.2 a0 6 7).bind fun r5 => r5.bind fun o7 => (xobj p2.2 o7 2).bind fun _ => (ev 15 0 [some (xA r5), some (xI n1)] [] p2.2).bind fun p6 => xrA p6.1 fun r8 => (xgA p6.2 a0 6 8).bind fun r9 => r9.bind fun o11 => (xobj p6.2 o11 2).bind fun _ => (ev 15 0 [some (xA r9), some (xI n2)] [] p6.2).bind fun p10 => xrA p10.1 fun r12 => r8.bind fun o14 => (xobj p10.2 o14 5).bind fun _ => (ev 36 0 [some (xA r8), some (xA r12)] [] p10.2).bind fun p13 => xrI p13.1 fun i15 => if i15 = 0 then (xgA p13.2 a0 6 6).bind fun r16 => r16.bind fun o18 => (xobj p13.2 o18 1).bind fun _ => (ev 7 0 [some (xA r16), some (xI n1), some (xI n2)] [] p13.2).bind fun p17 => xrI p17.1 fun i19 => if i19 = 0 then some (some (xI (0 : Int32)), p17.2) else ev 85 22 [some (xA (some a0)), some (xI n1), some (xI (n2 + (1 : Int32)))] [] p17.2 else ev 85 22 [some (xA (some a0)), some (xI n1), some (xI (n2 + (1 : Int32)))] [] p13.2 else ev 85 9 [some (xA (some a0)), some (xI (n1 + (1 : Int32))), none] [] p2.2
set_option maxRecDepth 100000 in
set_option maxHeartbeats 4000000 in
theorem r_X7_draftEqualOnes_22 (ev : Nat → xK) (a0 : Nat) (n1 : Int32) (n2 : Int32) (w : xW) : xstp (xca ev 85) 85 (xgo (xca ev 85) 85 (ev 85) 25) 22 [some (xA (some a0)), some (xI n1), some (xI n2)] [] w = b_X7_draftEqualOnes_22 ev a0 n1 n2 w := rfl
theorem e_X7_draftEqualOnes_22 (a0 : Nat) (n1 : Int32) (n2 : Int32) (w : xW) : xev 85 22 [some (xA (some a0)), some (xI n1), some (xI n2)] [] w = b_X7_draftEqualOnes_22 xev a0 n1 n2 w := (xev_go 85 25 22 [some (xA (some a0)), some (xI n1), some (xI n2)] [] w).trans (r_X7_draftEqualOnes_22 xev a0 n1 n2 w)
def b_X7_adoptDraft_0 (ev : Nat → xK) (a0 : Nat) (w : xW) : Option xR := (xgA w a0 6 5).bind fun r1 => (xgA w a0 6 6).bind fun r2 => (xput w a0 6 5 (xA r2)).bind fun w3 => (xput w3 a0 6 6 (xA r1)).bind fun w4 => (xgA w4 a0 6 5).bind fun r5 => r5.bind fun o7 => (xobj w4 o7 1).bind fun _ => (ev 8 0 [some (xA r5)] [] w4).bind fun p6 => xrI p6.1 fun i8 => some (some (xI i8), p6.2)
set_option maxRecDepth 100000 in
set_option maxHeartbeats 4000000 in
theorem r_X7_adoptDraft_0 (ev : Nat → xK) (a0 : Nat) (w : xW) : xstp (xca ev 86) 86 (xgo (xca ev 86) 86 (ev 86) 15) 0 [some (xA (some a0)), none] [] w = b_X7_adoptDraft_0 ev a0 w := rfl
theorem e_X7_adoptDraft_0 (a0 : Nat) (w : xW) : xev 86 0 [some (xA (some a0)), none] [] w = b_X7_adoptDraft_0 xev a0 w := (xev_go 86 15 0 [some (xA (some a0)), none] [] w).trans (r_X7_adoptDraft_0 xev a0 w)
def b_X8_init_0 (ev : Nat → xK) (a0 : Nat) (w : xW) : Option xR := (xnew w 0 (16 : Int32)).bind fun w1 => (xput w1 a0 7 0 (xA (some w.1))).bind fun w2 => (xnew w2 0 (16 : Int32)).bind fun w3 => (xput w3 a0 7 1 (xA (some w2.1))).bind fun w4 => (xnew w4 0 (384 : Int32)).bind fun w5 => (xput w5 a0 7 2 (xA (some w4.1))).bind fun w6 => (xnew w6 1 (384 : Int32)).bind fun w7 => (xput w7 a0 7 3 (xA (some w6.1))).bind fun w8 => (xnew w8 2 (384 : Int32)).bind fun w9 => (xput w9 a0 7 4 (xA (some w8.1))).bind fun w10 => (xnew w10 0 (10 : Int32)).bind fun w11 => (xput w11 a0 7 5 (xA (some w10.1))).bind fun w12 => (xput w12 a0 7 6 (xI (-6 : Int32))).bind fun w13 => (xput w13 a0 7 7 (xI (11 : Int32))).bind fun w14 => (xnew w14 0 (61 : Int32)).bind fun w15 => (xput w15 a0 7 11 (xA (some w14.1))).bind fun w16 => (xnew w16 3 (61 : Int32)).bind fun w17 => (xput w17 a0 7 12 (xA (some w16.1))).bind fun w18 => (xnew w18 0 (114 : Int32)).bind fun w19 => (xput w19 a0 7 14 (xA (some w18.1))).bind fun w20 => (xput w20 a0 7 15 (xI (-6 : Int32))).bind fun w21 => (xnew w21 0 (24 : Int32)).bind fun w22 => (xput w22 a0 7 16 (xA (some w21.1))).bind fun w23 => (xnew w23 0 (24 : Int32)).bind fun w24 => (xput w24 a0 7 17 (xA (some w23.1))).bind fun w25 => (xnew w25 1 (48 : Int32)).bind fun w26 => (xput w26 a0 7 23 (xA (some w25.1))).bind fun w27 => (xnew w27 2 (48 : Int32)).bind fun w28 => (xput w28 a0 7 24 (xA (some w27.1))).bind fun w29 => (xnew w29 3 (2 : Int32)).bind fun w30 => (xput w30 a0 7 26 (xA (some w29.1))).bind fun w31 => (xnew w31 0 (20 : Int32)).bind fun w32 => (xput w32 a0 7 27 (xA (some w31.1))).bind fun w33 => (xnew w33 0 (20 : Int32)).bind fun w34 => (xput w34 a0 7 28 (xA (some w33.1))).bind fun w35 => (xnew w35 0 (20 : Int32)).bind fun w36 => (xput w36 a0 7 29 (xA (some w35.1))).bind fun w37 => (xnew w37 0 (20 : Int32)).bind fun w38 => (xput w38 a0 7 30 (xA (some w37.1))).bind fun w39 => (xnew w39 0 (480 : Int32)).bind fun w40 => (xput w40 a0 7 31 (xA (some w39.1))).bind fun w41 => (xnew w41 1 (480 : Int32)).bind fun w42 => (xput w42 a0 7 32 (xA (some w41.1))).bind fun w43 => (xnew w43 2 (480 : Int32)).bind fun w44 => (xput w44 a0 7 33 (xA (some w43.1))).bind fun w45 => ev 87 197 [some (xA (some a0)), some (xI (0 : Int32))] [] w45
set_option maxRecDepth 100000 in
set_option maxHeartbeats 4000000 in
theorem r_X8_init_0 (ev : Nat → xK) (a0 : Nat) (w : xW) : xstp (xca ev 87) 87 (xgo (xca ev 87) 87 (ev 87) 99) 0 [some (xA (some a0)), none] [] w = b_X8_init_0 ev a0 w := rfl
theorem e_X8_init_0 (a0 : Nat) (w : xW) : xev 87 0 [some (xA (some a0)), none] [] w = b_X8_init_0 xev a0 w := (xev_go 87 99 0 [some (xA (some a0)), none] [] w).trans (r_X8_init_0 xev a0 w)
def b_X8_init_197 (ev : Nat → xK) (a0 : Nat) (n1 : Int32) (w : xW) : Option xR := if n1 < (10 : Int32) then (xgA w a0 7 5).bind fun r1 => r1.bind fun o3 => (xsI w o3 n1 (-1 : Int32)).bind fun w2 => ev 87 197 [some (xA (some a0)), some (xI (n1 + (1 : Int32)))] [] w2 else some (none, w)
set_option maxRecDepth 100000 in
set_option maxHeartbeats 4000000 in
theorem r_X8_init_197 (ev : Nat → xK) (a0 : Nat) (n1 : Int32) (w : xW) : xstp (xca ev 87) 87 (xgo (xca ev 87) 87 (ev 87) 12) 197 [some (xA (some a0)), some (xI n1)] [] w = b_X8_init_197 ev a0 n1 w := rfl
theorem e_X8_init_197 (a0 : Nat) (n1 : Int32) (w : xW) : xev 87 197 [some (xA (some a0)), some (xI n1)] [] w = b_X8_init_197 xev a0 n1 w := (xev_go 87 12 197 [some (xA (some a0)), some (xI n1)] [] w).trans (r_X8_init_197 xev a0 n1 w)
def b_X8_in_0 (ev : Nat → xK) (v0 : Int64) (v2 : Int64) (v4 : Int64) (w : xW) : Option xR := if lg_cmp v0 v2 < 0 then some (some (xI (0 : Int32)), w) else if 0 < lg_cmp v0 v4 then some (some (xI (0 : Int32)), w) else some (some (xI (1 : Int32)), w)
set_option maxRecDepth 100000 in
set_option maxHeartbeats 4000000 in
theorem r_X8_in_0 (ev : Nat → xK) (v0 : Int64) (v2 : Int64) (v4 : Int64) (w : xW) : xstp (xca ev 88) 88 (xgo (xca ev 88) 88 (ev 88) 12) 0 [some (xJ v0), none, some (xJ v2), none, some (xJ v4), none] [] w = b_X8_in_0 ev v0 v2 v4 w := rfl
theorem e_X8_in_0 (v0 : Int64) (v2 : Int64) (v4 : Int64) (w : xW) : xev 88 0 [some (xJ v0), none, some (xJ v2), none, some (xJ v4), none] [] w = b_X8_in_0 xev v0 v2 v4 w := (xev_go 88 12 0 [some (xJ v0), none, some (xJ v2), none, some (xJ v4), none] [] w).trans (r_X8_in_0 xev v0 v2 v4 w)
def b_X8_isColumn_0 (ev : Nat → xK) (n0 : Int32) (w : xW) : Option xR := (ev 88 0 [some (xJ n0.toInt64), none, some (xJ (0 : Int64)), none, some (xJ (9 : Int64)), none] [] w).bind fun p1 => xrI p1.1 fun i2 => if i2 &&& 1 = i2 then some (some (xI i2), p1.2) else none
set_option maxRecDepth 100000 in
set_option maxHeartbeats 4000000 in
theorem r_X8_isColumn_0 (ev : Nat → xK) (n0 : Int32) (w : xW) : xstp (xca ev 89) 89 (xgo (xca ev 89) 89 (ev 89) 7) 0 [some (xI n0)] [] w = b_X8_isColumn_0 ev n0 w := rfl
theorem e_X8_isColumn_0 (n0 : Int32) (w : xW) : xev 89 0 [some (xI n0)] [] w = b_X8_isColumn_0 xev n0 w := (xev_go 89 7 0 [some (xI n0)] [] w).trans (r_X8_isColumn_0 xev n0 w)
def b_X8_isRow_0 (ev : Nat → xK) (a0 : Nat) (n1 : Int32) (w : xW) : Option xR := (xgA w a0 7 5).bind fun r1 => r1.bind fun o3 => (xaI w o3 n1).bind fun i2 => (ev 88 0 [some (xJ i2.toInt64), none, some (xJ (0 : Int64)), none, some (xJ (15 : Int64)), none] [] w).bind fun p4 => xrI p4.1 fun i5 => if i5 &&& 1 = i5 then some (some (xI i5), p4.2) else none
set_option maxRecDepth 100000 in
set_option maxHeartbeats 4000000 in
theorem r_X8_isRow_0 (ev : Nat → xK) (a0 : Nat) (n1 : Int32) (w : xW) : xstp (xca ev 90) 90 (xgo (xca ev 90) 90 (ev 90) 10) 0 [some (xA (some a0)), some (xI n1)] [] w = b_X8_isRow_0 ev a0 n1 w := rfl
theorem e_X8_isRow_0 (a0 : Nat) (n1 : Int32) (w : xW) : xev 90 0 [some (xA (some a0)), some (xI n1)] [] w = b_X8_isRow_0 xev a0 n1 w := (xev_go 90 10 0 [some (xA (some a0)), some (xI n1)] [] w).trans (r_X8_isRow_0 xev a0 n1 w)
def b_X8_first_0 (ev : Nat → xK) (a0 : Nat) (n1 : Int32) (w : xW) : Option xR := (xgA w a0 7 5).bind fun r1 => r1.bind fun o3 => (xaI w o3 n1).bind fun i2 => if i2 = (-1 : Int32) then some (some (xI (1 : Int32)), w) else (xobj w a0 7).bind fun _ => (ev 90 0 [some (xA (some a0)), some (xI n1)] [] w).bind fun p4 => xrI p4.1 fun i5 => if i5 = 0 then some (some (xI (2 : Int32)), p4.2) else some (some (xI (0 : Int32)), p4.2)
set_option maxRecDepth 100000 in
set_option maxHeartbeats 4000000 in
theorem r_X8_first_0 (ev : Nat → xK) (a0 : Nat) (n1 : Int32) (w : xW) : xstp (xca ev 91) 91 (xgo (xca ev 91) 91 (ev 91) 14) 0 [some (xA (some a0)), some (xI n1)] [] w = b_X8_first_0 ev a0 n1 w := rfl
theorem e_X8_first_0 (a0 : Nat) (n1 : Int32) (w : xW) : xev 91 0 [some (xA (some a0)), some (xI n1)] [] w = b_X8_first_0 xev a0 n1 w := (xev_go 91 14 0 [some (xA (some a0)), some (xI n1)] [] w).trans (r_X8_first_0 xev a0 n1 w)
def b_X8_free_0 (ev : Nat → xK) (a0 : Nat) (n1 : Int32) (w : xW) : Option xR := ev 92 5 [some (xA (some a0)), some (xI n1), some (xI (-6 : Int32)), some (xI (0 : Int32)), none, none] [] w
set_option maxRecDepth 100000 in
set_option maxHeartbeats 4000000 in
theorem r_X8_free_0 (ev : Nat → xK) (a0 : Nat) (n1 : Int32) (w : xW) : xstp (xca ev 92) 92 (xgo (xca ev 92) 92 (ev 92) 6) 0 [some (xA (some a0)), some (xI n1), none, none, none, none] [] w = b_X8_free_0 ev a0 n1 w := rfl
theorem e_X8_free_0 (a0 : Nat) (n1 : Int32) (w : xW) : xev 92 0 [some (xA (some a0)), some (xI n1), none, none, none, none] [] w = b_X8_free_0 xev a0 n1 w := (xev_go 92 6 0 [some (xA (some a0)), some (xI n1), none, none, none, none] [] w).trans (r_X8_free_0 xev a0 n1 w)
def b_X8_free_5 (ev : Nat → xK) (a0 : Nat) (n1 : Int32) (n2 : Int32) (n3 : Int32) (w : xW) : Option xR := if n3 < (16 : Int32) then (xgI w a0 7 6).bind fun i1 => if n3 = i1 then ev 92 34 [some (xA (some a0)), some (xI n1), some (xI n2), some (xI n3), some (xI (1 : Int32)), some (xI (0 : Int32))] [] w else if n3 = n1 then ev 92 34 [some (xA (some a0)), some (xI n1), some (xI n2), some (xI n3), some (xI (1 : Int32)), some (xI (0 : Int32))] [] w else ev 92 34 [some (xA (some a0)), some (xI n1), some (xI n2), some (xI n3), some (xI (0 : Int32)), some (xI (0 : Int32))] [] w else some (some (xI n2), w)
set_option maxRecDepth 100000 in
set_option maxHeartbeats 4000000 in
theorem r_X8_free_5 (ev : Nat → xK) (a0 : Nat) (n1 : Int32) (n2 : Int32) (n3 : Int32) (w : xW) : xstp (xca ev 92) 92 (xgo (xca ev 92) 92 (ev 92) 17) 5 [some (xA (some a0)), some (xI n1), some (xI n2), some (xI n3), none, none] [] w = b_X8_free_5 ev a0 n1 n2 n3 w := rfl
theorem e_X8_free_5 (a0 : Nat) (n1 : Int32) (n2 : Int32) (n3 : Int32) (w : xW) : xev 92 5 [some (xA (some a0)), some (xI n1), some (xI n2), some (xI n3), none, none] [] w = b_X8_free_5 xev a0 n1 n2 n3 w := (xev_go 92 17 5 [some (xA (some a0)), some (xI n1), some (xI n2), some (xI n3), none, none] [] w).trans (r_X8_free_5 xev a0 n1 n2 n3 w)
def b_X8_free_34 (ev : Nat → xK) (a0 : Nat) (n1 : Int32) (n2 : Int32) (n3 : Int32) (n4 : Int32) (n5 : Int32) (w : xW) : Option xR := if n5 < (10 : Int32) then if n4 = 0 then (xgA w a0 7 5).bind fun r1 => r1.bind fun o3 => (xaI w o3 n5).bind fun i2 => if i2 = n3 then ev 92 34 [some (xA (some a0)), some (xI n1), some (xI n2), some (xI n3), some (xI (1 : Int32)), some (xI (n5 + (1 : Int32)))] [] w else ev 92 34 [some (xA (some a0)), some (xI n1), some (xI n2), some (xI n3), some (xI (0 : Int32)), some (xI (n5 + (1 : Int32)))] [] w else ev 92 34 [some (xA (some a0)), some (xI n1), some (xI n2), some (xI n3), some (xI (1 : Int32)), some (xI (n5 + (1 : Int32)))] [] w else if n2 < 0 then if n4 = 0 then ev 92 5 [some (xA (some a0)), some (xI n1), some (xI n3), some (xI (n3 + (1 : Int32))), none, none] [] w else ev 92 5 [some (xA (some a0)), some (xI n1), some (xI n2), some (xI (n3 + (1 : Int32))), none, none] [] w else ev 92 5 [some (xA (some a0)), some (xI n1), some (xI n2), some (xI (n3 + (1 : Int32))), none, none] [] w
set_option maxRecDepth 100000 in
set_option maxHeartbeats 4000000 in
theorem r_X8_free_34 (ev : Nat → xK) (a0 : Nat) (n1 : Int32) (n2 : Int32) (n3 : Int32) (n4 : Int32) (n5 : Int32) (w : xW) : xstp (xca ev 92) 92 (xgo (xca ev 92) 92 (ev 92) 18) 34 [some (xA (some a0)), some (xI n1), some (xI n2), some (xI n3), some (xI n4), some (xI n5)] [] w = b_X8_free_34 ev a0 n1 n2 n3 n4 n5 w := rfl
theorem e_X8_free_34 (a0 : Nat) (n1 : Int32) (n2 : Int32) (n3 : Int32) (n4 : Int32) (n5 : Int32) (w : xW) : xev 92 34 [some (xA (some a0)), some (xI n1), some (xI n2), some (xI n3), some (xI n4), some (xI n5)] [] w = b_X8_free_34 xev a0 n1 n2 n3 n4 n5 w := (xev_go 92 18 34 [some (xA (some a0)), some (xI n1), some (xI n2), some (xI n3), some (xI n4), some (xI n5)] [] w).trans (r_X8_free_34 xev a0 n1 n2 n3 n4 n5 w)
def b_X8_begin_0 (ev : Nat → xK) (a0 : Nat) (n1 : Int32) (n2 : Int32) (n3 : Int32) (w : xW) : Option xR := (xgA w a0 7 0).bind fun r1 => r1.bind fun o3 => (xsI w o3 n1 n2).bind fun w2 => (xgA w2 a0 7 1).bind fun r4 => r4.bind fun o6 => (xsI w2 o6 n1 n3).bind fun w5 => ev 93 17 [some (xA (some a0)), some (xI n1), some (xI n2), none, some (xI (0 : Int32))] [] w5
set_option maxRecDepth 100000 in
set_option maxHeartbeats 4000000 in
theorem r_X8_begin_0 (ev : Nat → xK) (a0 : Nat) (n1 : Int32) (n2 : Int32) (n3 : Int32) (w : xW) : xstp (xca ev 93) 93 (xgo (xca ev 93) 93 (ev 93) 14) 0 [some (xA (some a0)), some (xI n1), some (xI n2), some (xI n3), none] [] w = b_X8_begin_0 ev a0 n1 n2 n3 w := rfl
theorem e_X8_begin_0 (a0 : Nat) (n1 : Int32) (n2 : Int32) (n3 : Int32) (w : xW) : xev 93 0 [some (xA (some a0)), some (xI n1), some (xI n2), some (xI n3), none] [] w = b_X8_begin_0 xev a0 n1 n2 n3 w := (xev_go 93 14 0 [some (xA (some a0)), some (xI n1), some (xI n2), some (xI n3), none] [] w).trans (r_X8_begin_0 xev a0 n1 n2 n3 w)
def b_X8_begin_17 (ev : Nat → xK) (a0 : Nat) (n1 : Int32) (n2 : Int32) (n4 : Int32) (w : xW) : Option xR := if n4 < (24 : Int32) then if n2 < (8 : Int32) then (xobj w a0 7).bind fun _ => (ev 94 0 [some (xA (some a0)), some (xI (((24 : Int32) * n1) + n4)), some (xI n2), some (xJ (0 : Int64)), none, some (xD (0 : UInt64)), none] [] w).bind fun p1 => xrV p1.1 (ev 93 17 [some (xA (some a0)), some (xI n1), some (xI n2), none, some (xI (n4 + (1 : Int32)))] [] p1.2) else (xobj w a0 7).bind fun _ => (ev 94 0 [some (xA (some a0)), some (xI (((24 : Int32) * n1) + n4)), some (xI (11 : Int32)), some (xJ (0 : Int64)), none, some (xD (0 : UInt64)), none] [] w).bind fun p2 => xrV p2.1 (ev 93 17 [some (xA (some a0)), some (xI n1), some (xI n2), none, some (xI (n4 + (1 : Int32)))] [] p2.2) else some (none, w)
set_option maxRecDepth 100000 in
set_option maxHeartbeats 4000000 in
theorem r_X8_begin_17 (ev : Nat → xK) (a0 : Nat) (n1 : Int32) (n2 : Int32) (n4 : Int32) (w : xW) : xstp (xca ev 93) 93 (xgo (xca ev 93) 93 (ev 93) 21) 17 [some (xA (some a0)), some (xI n1), some (xI n2), none, some (xI n4)] [] w = b_X8_begin_17 ev a0 n1 n2 n4 w := rfl
theorem e_X8_begin_17 (a0 : Nat) (n1 : Int32) (n2 : Int32) (n4 : Int32) (w : xW) : xev 93 17 [some (xA (some a0)), some (xI n1), some (xI n2), none, some (xI n4)] [] w = b_X8_begin_17 xev a0 n1 n2 n4 w := (xev_go 93 21 17 [some (xA (some a0)), some (xI n1), some (xI n2), none, some (xI n4)] [] w).trans (r_X8_begin_17 xev a0 n1 n2 n4 w)
def b_X8_put_0 (ev : Nat → xK) (a0 : Nat) (n1 : Int32) (n2 : Int32) (v3 : Int64) (y5 : UInt64) (w : xW) : Option xR := (xgA w a0 7 2).bind fun r1 => r1.bind fun o3 => (xsI w o3 n1 n2).bind fun w2 => (xgA w2 a0 7 3).bind fun r4 => r4.bind fun o6 => (xsJ w2 o6 n1 v3).bind fun w5 => (xgA w5 a0 7 4).bind fun r7 => r7.bind fun o9 => (xsD w5 o9 n1 y5).bind fun w8 => some (none, w8)
set_option maxRecDepth 100000 in
set_option maxHeartbeats 4000000 in
theorem r_X8_put_0 (ev : Nat → xK) (a0 : Nat) (n1 : Int32) (n2 : Int32) (v3 : Int64) (y5 : UInt64) (w : xW) : xstp (xca ev 94) 94 (xgo (xca ev 94) 94 (ev 94) 17) 0 [some (xA (some a0)), some (xI n1), some (xI n2), some (xJ v3), none, some (xD y5), none] [] w = b_X8_put_0 ev a0 n1 n2 v3 y5 w := rfl
theorem e_X8_put_0 (a0 : Nat) (n1 : Int32) (n2 : Int32) (v3 : Int64) (y5 : UInt64) (w : xW) : xev 94 0 [some (xA (some a0)), some (xI n1), some (xI n2), some (xJ v3), none, some (xD y5), none] [] w = b_X8_put_0 xev a0 n1 n2 v3 y5 w := (xev_go 94 17 0 [some (xA (some a0)), some (xI n1), some (xI n2), some (xJ v3), none, some (xD y5), none] [] w).trans (r_X8_put_0 xev a0 n1 n2 v3 y5 w)
def b_X8_copy_0 (ev : Nat → xK) (a0 : Nat) (n1 : Int32) (n2 : Int32) (w : xW) : Option xR := (xgA w a0 7 2).bind fun r1 => r1.bind fun o3 => (xaI w o3 n1).bind fun i2 => (xgA w a0 7 3).bind fun r4 => r4.bind fun o6 => (xaJ w o6 n1).bind fun j5 => (xgA w a0 7 4).bind fun r7 => r7.bind fun o9 => (xaD w o9 n1).bind fun d8 => (xobj w a0 7).bind fun _ => (ev 94 0 [some (xA (some a0)), some (xI n2), some (xI i2), some (xJ j5), none, some (xD d8), none] [] w).bind fun p10 => xrV p10.1 (some (none, p10.2))
set_option maxRecDepth 100000 in
set_option maxHeartbeats 4000000 in
theorem r_X8_copy_0 (ev : Nat → xK) (a0 : Nat) (n1 : Int32) (n2 : Int32) (w : xW) : xstp (xca ev 95) 95 (xgo (xca ev 95) 95 (ev 95) 17) 0 [some (xA (some a0)), some (xI n1), some (xI n2)] [] w = b_X8_copy_0 ev a0 n1 n2 w := rfl
theorem e_X8_copy_0 (a0 : Nat) (n1 : Int32) (n2 : Int32) (w : xW) : xev 95 0 [some (xA (some a0)), some (xI n1), some (xI n2)] [] w = b_X8_copy_0 xev a0 n1 n2 w := (xev_go 95 17 0 [some (xA (some a0)), some (xI n1), some (xI n2)] [] w).trans (r_X8_copy_0 xev a0 n1 n2 w)
def b_X8_make_0 (ev : Nat → xK) (a0 : Nat) (n1 : Int32) (v2 : Int64) (w : xW) : Option xR := if n1 = 0 then (xput w a0 7 19 (xJ (v2 &&& (1 : Int64)))).bind fun w1 => (xput w1 a0 7 20 (xD (0 : UInt64))).bind fun w2 => if n1 = (6 : Int32) then xnD (FP.f2d (FP.l2f v2)) fun z3 => (xput w2 a0 7 20 (xD z3)).bind fun w4 => (xgD w4 a0 7 20).bind fun d5 => xnD (FP.ddiv d5 (4620693217682128896 : UInt64)) fun z6 => (xput w4 a0 7 20 (xD z6)).bind fun w7 => if n1 = (7 : Int32) then xnD (FP.ddiv (FP.l2d v2) (4620693217682128896 : UInt64)) fun z8 => (xput w7 a0 7 20 (xD z8)).bind fun w9 => if (5 : Int32) < n1 then (xput w9 a0 7 19 (xJ (0 : Int64))).bind fun w10 => some (none, w10) else some (none, w9) else if (5 : Int32) < n1 then (xput w7 a0 7 19 (xJ (0 : Int64))).bind fun w11 => some (none, w11) else some (none, w7) else if n1 = (7 : Int32) then xnD (FP.ddiv (FP.l2d v2) (4620693217682128896 : UInt64)) fun z12 => (xput w2 a0 7 20 (xD z12)).bind fun w13 => if (5 : Int32) < n1 then (xput w13 a0 7 19 (xJ (0 : Int64))).bind fun w14 => some (none, w14) else some (none, w13) else if (5 : Int32) < n1 then (xput w2 a0 7 19 (xJ (0 : Int64))).bind fun w15 => some (none, w15) else some (none, w2) else if n1 = (1 : Int32) then (xput w a0 7 19 (xJ v2.toInt32.toInt8.toInt32.toInt64)).bind fun w16 => (xput w16 a0 7 20 (xD (0 : UInt64))).bind fun w17 => if n1 = (6 : Int32) then xnD (FP.f2d (FP.l2f v2)) fun z18 => (xput w17 a0 7 20 (xD z18)).bind fun w19 => (xgD w19 a0 7 20).bind fun d20 => xnD (FP.ddiv d20 (4620693217682128896 : UInt64)) fun z21 => (xput w19 a0 7 20 (xD z21)).bind fun w22 => if n1 = (7 : Int32) then xnD (FP.ddiv (FP.l2d v2) (4620693217682128896 : UInt64)) fun z23 => (xput w22 a0 7 20 (xD z23)).bind fun w24 => if (5 : Int32) < n1 then (xput w24 a0 7 19 (xJ (0 : Int64))).bind fun w25 => some (none, w25) else some (none, w24) else if (5 : Int32) < n1 then (xput w22 a0 7 19 (xJ (0 : Int64))).bind fun w26 => some (none, w26) else some (none, w22) else if n1 = (7 : Int32) then xnD (FP.ddiv (FP.l2d v2) (4620693217682128896 : UInt64)) fun z27 => (xput w17 a0 7 20 (xD z27)).bind fun w28 => if (5 : Int32) < n1 then (xput w28 a0 7 19 (xJ (0 : Int64))).bind fun w29 => some (none, w29) else some (none, w28) else if (5 : Int32) < n1 then (xput w17 a0 7 19 (xJ (0 : Int64))).bind fun w30 => some (none, w30) else some (none, w17) else if n1 = (2 : Int32) then (xput w a0 7 19 (xJ (((v2.toInt32.toUInt32 % 65536).toInt32).toInt64))).bind fun w31 => (xput w31 a0 7 20 (xD (0 : UInt64))).bind fun w32 => if n1 = (6 : Int32) then xnD (FP.f2d (FP.l2f v2)) fun z33 => (xput w32 a0 7 20 (xD z33)).bind fun w34 => (xgD w34 a0 7 20).bind fun d35 => xnD (FP.ddiv d35 (4620693217682128896 : UInt64)) fun z36 => (xput w34 a0 7 20 (xD z36)).bind fun w37 => if n1 = (7 : Int32) then xnD (FP.ddiv (FP.l2d v2) (4620693217682128896 : UInt64)) fun z38 => (xput w37 a0 7 20 (xD z38)).bind fun w39 => if (5 : Int32) < n1 then (xput w39 a0 7 19 (xJ (0 : Int64))).bind fun w40 => some (none, w40) else some (none, w39) else if (5 : Int32) < n1 then (xput w37 a0 7 19 (xJ (0 : Int64))).bind fun w41 => some (none, w41) else some (none, w37) else if n1 = (7 : Int32) then xnD (FP.ddiv (FP.l2d v2) (4620693217682128896 : UInt64)) fun z42 => (xput w32 a0 7 20 (xD z42)).bind fun w43 => if (5 : Int32) < n1 then (xput w43 a0 7 19 (xJ (0 : Int64))).bind fun w44 => some (none, w44) else some (none, w43) else if (5 : Int32) < n1 then (xput w32 a0 7 19 (xJ (0 : Int64))).bind fun w45 => some (none, w45) else some (none, w32) else if n1 = (3 : Int32) then (xput w a0 7 19 (xJ v2.toInt32.toInt16.toInt32.toInt64)).bind fun w46 => (xput w46 a0 7 20 (xD (0 : UInt64))).bind fun w47 => if n1 = (6 : Int32) then xnD (FP.f2d (FP.l2f v2)) fun z48 => (xput w47 a0 7 20 (xD z48)).bind fun w49 => (xgD w49 a0 7 20).bind fun d50 => xnD (FP.ddiv d50 (4620693217682128896 : UInt64)) fun z51 => (xput w49 a0 7 20 (xD z51)).bind fun w52 => if n1 = (7 : Int32) then xnD (FP.ddiv (FP.l2d v2) (4620693217682128896 : UInt64)) fun z53 => (xput w52 a0 7 20 (xD z53)).bind fun w54 => if (5 : Int32) < n1 then (xput w54 a0 7 19 (xJ (0 : Int64))).bind fun w55 => some (none, w55) else some (none, w54) else if (5 : Int32) < n1 then (xput w52 a0 7 19 (xJ (0 : Int64))).bind fun w56 => some (none, w56) else some (none, w52) else if n1 = (7 : Int32) then xnD (FP.ddiv (FP.l2d v2) (4620693217682128896 : UInt64)) fun z57 => (xput w47 a0 7 20 (xD z57)).bind fun w58 => if (5 : Int32) < n1 then (xput w58 a0 7 19 (xJ (0 : Int64))).bind fun w59 => some (none, w59) else some (none, w58) else if (5 : Int32) < n1 then (xput w47 a0 7 19 (xJ (0 : Int64))).bind fun w60 => some (none, w60) else some (none, w47) else if n1 = (4 : Int32) then (xput w a0 7 19 (xJ v2.toInt32.toInt64)).bind fun w61 => (xput w61 a0 7 20 (xD (0 : UInt64))).bind fun w62 => if n1 = (6 : Int32) then xnD (FP.f2d (FP.l2f v2)) fun z63 => (xput w62 a0 7 20 (xD z63)).bind fun w64 => (xgD w64 a0 7 20).bind fun d65 => xnD (FP.ddiv d65 (4620693217682128896 : UInt64)) fun z66 => (xput w64 a0 7 20 (xD z66)).bind fun w67 => if n1 = (7 : Int32) then xnD (FP.ddiv (FP.l2d v2) (4620693217682128896 : UInt64)) fun z68 => (xput w67 a0 7 20 (xD z68)).bind fun w69 => if (5 : Int32) < n1 then (xput w69 a0 7 19 (xJ (0 : Int64))).bind fun w70 => some (none, w70) else some (none, w69) else if (5 : Int32) < n1 then (xput w67 a0 7 19 (xJ (0 : Int64))).bind fun w71 => some (none, w71) else some (none, w67) else if n1 = (7 : Int32) then xnD (FP.ddiv (FP.l2d v2) (4620693217682128896 : UInt64)) fun z72 => (xput w62 a0 7 20 (xD z72)).bind fun w73 => if (5 : Int32) < n1 then (xput w73 a0 7 19 (xJ (0 : Int64))).bind fun w74 => some (none, w74) else some (none, w73) else if (5 : Int32) < n1 then (xput w62 a0 7 19 (xJ (0 : Int64))).bind fun w75 => some (none, w75) else some (none, w62) else (xput w a0 7 19 (xJ v2)).bind fun w76 => (xput w76 a0 7 20 (xD (0 : UInt64))).bind fun w77 => if n1 = (6 : Int32) then xnD (FP.f2d (FP.l2f v2)) fun z78 => (xput w77 a0 7 20 (xD z78)).bind fun w79 => (xgD w79 a0 7 20).bind fun d80 => xnD (FP.ddiv d80 (4620693217682128896 : UInt64)) fun z81 => (xput w79 a0 7 20 (xD z81)).bind fun w82 => if n1 = (7 : Int32) then xnD (FP.ddiv (FP.l2d v2) (4620693217682128896 : UInt64)) fun z83 => (xput w82 a0 7 20 (xD z83)).bind fun w84 => if (5 : Int32) < n1 then (xput w84 a0 7 19 (xJ (0 : Int64))).bind fun w85 => some (none, w85) else some (none, w84) else if (5 : Int32) < n1 then (xput w82 a0 7 19 (xJ (0 : Int64))).bind fun w86 => some (none, w86) else some (none, w82) else if n1 = (7 : Int32) then xnD (FP.ddiv (FP.l2d v2) (4620693217682128896 : UInt64)) fun z87 => (xput w77 a0 7 20 (xD z87)).bind fun w88 => if (5 : Int32) < n1 then (xput w88 a0 7 19 (xJ (0 : Int64))).bind fun w89 => some (none, w89) else some (none, w88) else if (5 : Int32) < n1 then (xput w77 a0 7 19 (xJ (0 : Int64))).bind fun w90 => some (none, w90) else some (none, w77)
set_option maxRecDepth 100000 in
set_option maxHeartbeats 4000000 in
theorem r_X8_make_0 (ev : Nat → xK) (a0 : Nat) (n1 : Int32) (v2 : Int64) (w : xW) : xstp (xca ev 96) 96 (xgo (xca ev 96) 96 (ev 96) 54) 0 [some (xA (some a0)), some (xI n1), some (xJ v2), none] [] w = b_X8_make_0 ev a0 n1 v2 w := rfl
theorem e_X8_make_0 (a0 : Nat) (n1 : Int32) (v2 : Int64) (w : xW) : xev 96 0 [some (xA (some a0)), some (xI n1), some (xJ v2), none] [] w = b_X8_make_0 xev a0 n1 v2 w := (xev_go 96 54 0 [some (xA (some a0)), some (xI n1), some (xJ v2), none] [] w).trans (r_X8_make_0 xev a0 n1 v2 w)
def b_X8_widens_0 (ev : Nat → xK) (n0 : Int32) (n1 : Int32) (w : xW) : Option xR := if n0 = n1 then some (some (xI (1 : Int32)), w) else if n0 = 0 then some (some (xI (0 : Int32)), w) else if n1 < (3 : Int32) then some (some (xI (0 : Int32)), w) else if n1 < n0 then some (some (xI (0 : Int32)), w) else if n0 = (2 : Int32) then if n1 = (3 : Int32) then some (some (xI (0 : Int32)), w) else some (some (xI (1 : Int32)), w) else some (some (xI (1 : Int32)), w)
set_option maxRecDepth 100000 in
set_option maxHeartbeats 4000000 in
theorem r_X8_widens_0 (ev : Nat → xK) (n0 : Int32) (n1 : Int32) (w : xW) : xstp (xca ev 97) 97 (xgo (xca ev 97) 97 (ev 97) 21) 0 [some (xI n0), some (xI n1)] [] w = b_X8_widens_0 ev n0 n1 w := rfl
theorem e_X8_widens_0 (n0 : Int32) (n1 : Int32) (w : xW) : xev 97 0 [some (xI n0), some (xI n1)] [] w = b_X8_widens_0 xev n0 n1 w := (xev_go 97 21 0 [some (xI n0), some (xI n1)] [] w).trans (r_X8_widens_0 xev n0 n1 w)
def b_X8_widened_0 (ev : Nat → xK) (n0 : Int32) (n1 : Int32) (v2 : Int64) (y4 : UInt64) (w : xW) : Option xR := if n1 < (6 : Int32) then some (some (xD (0 : UInt64)), w) else if (5 : Int32) < n0 then some (some (xD y4), w) else if n1 = (6 : Int32) then xnD (FP.f2d (FP.l2f v2)) fun z1 => some (some (xD z1), w) else some (some (xD (FP.l2d v2)), w)
set_option maxRecDepth 100000 in
set_option maxHeartbeats 4000000 in
theorem r_X8_widened_0 (ev : Nat → xK) (n0 : Int32) (n1 : Int32) (v2 : Int64) (y4 : UInt64) (w : xW) : xstp (xca ev 98) 98 (xgo (xca ev 98) 98 (ev 98) 15) 0 [some (xI n0), some (xI n1), some (xJ v2), none, some (xD y4), none] [] w = b_X8_widened_0 ev n0 n1 v2 y4 w := rfl
theorem e_X8_widened_0 (n0 : Int32) (n1 : Int32) (v2 : Int64) (y4 : UInt64) (w : xW) : xev 98 0 [some (xI n0), some (xI n1), some (xJ v2), none, some (xD y4), none] [] w = b_X8_widened_0 xev n0 n1 v2 y4 w := (xev_go 98 15 0 [some (xI n0), some (xI n1), some (xJ v2), none, some (xD y4), none] [] w).trans (r_X8_widened_0 xev n0 n1 v2 y4 w)
def b_X8_floatBits_0 (ev : Nat → xK) (y0 : UInt64) (w : xW) : Option xR := if Op.cmpValue (FP.dcmp y0 (0 : UInt64)) .l = 0 then some (some (xI (0 : Int32)), w) else if Op.cmpValue (FP.dcmp y0 (0 : UInt64)) .g < 0 then ev 99 29 [some (xD y0), none, some (xD (FP.dneg y0)), none, some (xI (150 : Int32)), some (xI (0 : Int32))] [] w else ev 99 29 [some (xD y0), none, some (xD y0), none, some (xI (150 : Int32)), some (xI (0 : Int32))] [] w
set_option maxRecDepth 100000 in
set_option maxHeartbeats 4000000 in
theorem r_X8_floatBits_0 (ev : Nat → xK) (y0 : UInt64) (w : xW) : xstp (xca ev 99) 99 (xgo (xca ev 99) 99 (ev 99) 18) 0 [some (xD y0), none, none, none, none, none] [] w = b_X8_floatBits_0 ev y0 w := rfl
theorem e_X8_floatBits_0 (y0 : UInt64) (w : xW) : xev 99 0 [some (xD y0), none, none, none, none, none] [] w = b_X8_floatBits_0 xev y0 w := (xev_go 99 18 0 [some (xD y0), none, none, none, none, none] [] w).trans (r_X8_floatBits_0 xev y0 w)
def b_X8_floatBits_29 (ev : Nat → xK) (y0 : UInt64) (y2 : UInt64) (n4 : Int32) (n5 : Int32) (w : xW) : Option xR := if n5 < (200 : Int32) then if Op.cmpValue (FP.dcmp y2 (4715268809856909312 : UInt64)) .l < 0 then ev 99 63 [some (xD y0), none, some (xD y2), none, some (xI n4), some (xI (0 : Int32))] [] w else xnD (FP.ddiv y2 (4611686018427387904 : UInt64)) fun z1 => ev 99 29 [some (xD y0), none, some (xD z1), none, some (xI (n4 + (1 : Int32))), some (xI (n5 + (1 : Int32)))] [] w else ev 99 63 [some (xD y0), none, some (xD y2), none, some (xI n4), some (xI (0 : Int32))] [] w
set_option maxRecDepth 100000 in
set_option maxHeartbeats 4000000 in
theorem r_X8_floatBits_29 (ev : Nat → xK) (y0 : UInt64) (y2 : UInt64) (n4 : Int32) (n5 : Int32) (w : xW) : xstp (xca ev 99) 99 (xgo (xca ev 99) 99 (ev 99) 16) 29 [some (xD y0), none, some (xD y2), none, some (xI n4), some (xI n5)] [] w = b_X8_floatBits_29 ev y0 y2 n4 n5 w := rfl
theorem e_X8_floatBits_29 (y0 : UInt64) (y2 : UInt64) (n4 : Int32) (n5 : Int32) (w : xW) : xev 99 29 [some (xD y0), none, some (xD y2), none, some (xI n4), some (xI n5)] [] w = b_X8_floatBits_29 xev y0 y2 n4 n5 w := (xev_go 99 16 29 [some (xD y0), none, some (xD y2), none, some (xI n4), some (xI n5)] [] w).trans (r_X8_floatBits_29 xev y0 y2 n4 n5 w)
def b_X8_floatBits_63 (ev : Nat → xK) (y0 : UInt64) (y2 : UInt64) (n4 : Int32) (n5 : Int32) (w : xW) : Option xR := if n5 < (200 : Int32) then if Op.cmpValue (FP.dcmp y2 (4710765210229538816 : UInt64)) .g < 0 then xnD (FP.dmul y2 (4611686018427387904 : UInt64)) fun z1 => ev 99 63 [some (xD y0), none, some (xD z1), none, some (xI (n4 + (-1 : Int32))), some (xI (n5 + (1 : Int32)))] [] w else if Op.cmpValue (FP.dcmp y0 (0 : UInt64)) .g < 0 then some (some (xI ((((FP.d2i y2) - (8388608 : Int32)) + (n4 <<< ((23 : Int32) &&& 31))) ||| (-2147483648 : Int32))), w) else some (some (xI (((FP.d2i y2) - (8388608 : Int32)) + (n4 <<< ((23 : Int32) &&& 31)))), w) else if Op.cmpValue (FP.dcmp y0 (0 : UInt64)) .g < 0 then some (some (xI ((((FP.d2i y2) - (8388608 : Int32)) + (n4 <<< ((23 : Int32) &&& 31))) ||| (-2147483648 : Int32))), w) else some (some (xI (((FP.d2i y2) - (8388608 : Int32)) + (n4 <<< ((23 : Int32) &&& 31)))), w)
set_option maxRecDepth 100000 in
set_option maxHeartbeats 4000000 in
theorem r_X8_floatBits_63 (ev : Nat → xK) (y0 : UInt64) (y2 : UInt64) (n4 : Int32) (n5 : Int32) (w : xW) : xstp (xca ev 99) 99 (xgo (xca ev 99) 99 (ev 99) 26) 63 [some (xD y0), none, some (xD y2), none, some (xI n4), some (xI n5)] [] w = b_X8_floatBits_63 ev y0 y2 n4 n5 w := rfl
theorem e_X8_floatBits_63 (y0 : UInt64) (y2 : UInt64) (n4 : Int32) (n5 : Int32) (w : xW) : xev 99 63 [some (xD y0), none, some (xD y2), none, some (xI n4), some (xI n5)] [] w = b_X8_floatBits_63 xev y0 y2 n4 n5 w := (xev_go 99 26 63 [some (xD y0), none, some (xD y2), none, some (xI n4), some (xI n5)] [] w).trans (r_X8_floatBits_63 xev y0 y2 n4 n5 w)
def b_X8_doubleBits_0 (ev : Nat → xK) (y0 : UInt64) (w : xW) : Option xR := if Op.cmpValue (FP.dcmp y0 (0 : UInt64)) .l = 0 then some (some (xJ (0 : Int64)), w) else if Op.cmpValue (FP.dcmp y0 (0 : UInt64)) .g < 0 then ev 100 29 [some (xD y0), none, some (xD (FP.dneg y0)), none, some (xJ (1075 : Int64)), none, some (xI (0 : Int32)), none] [] w else ev 100 29 [some (xD y0), none, some (xD y0), none, some (xJ (1075 : Int64)), none, some (xI (0 : Int32)), none] [] w
set_option maxRecDepth 100000 in
set_option maxHeartbeats 4000000 in
theorem r_X8_doubleBits_0 (ev : Nat → xK) (y0 : UInt64) (w : xW) : xstp (xca ev 100) 100 (xgo (xca ev 100) 100 (ev 100) 18) 0 [some (xD y0), none, none, none, none, none, none, none] [] w = b_X8_doubleBits_0 ev y0 w := rfl
theorem e_X8_doubleBits_0 (y0 : UInt64) (w : xW) : xev 100 0 [some (xD y0), none, none, none, none, none, none, none] [] w = b_X8_doubleBits_0 xev y0 w := (xev_go 100 18 0 [some (xD y0), none, none, none, none, none, none, none] [] w).trans (r_X8_doubleBits_0 xev y0 w)
def b_X8_doubleBits_29 (ev : Nat → xK) (y0 : UInt64) (y2 : UInt64) (v4 : Int64) (n6 : Int32) (w : xW) : Option xR := if n6 < (200 : Int32) then if Op.cmpValue (FP.dcmp y2 (4845873199050653696 : UInt64)) .l < 0 then ev 100 66 [some (xD y0), none, some (xD y2), none, some (xJ v4), none, some (xI (0 : Int32)), none] [] w else xnD (FP.ddiv y2 (4611686018427387904 : UInt64)) fun z1 => ev 100 29 [some (xD y0), none, some (xD z1), none, some (xJ (v4 + (1 : Int64))), none, some (xI (n6 + (1 : Int32))), none] [] w else ev 100 66 [some (xD y0), none, some (xD y2), none, some (xJ v4), none, some (xI (0 : Int32)), none] [] w
set_option maxRecDepth 100000 in
set_option maxHeartbeats 4000000 in
theorem r_X8_doubleBits_29 (ev : Nat → xK) (y0 : UInt64) (y2 : UInt64) (v4 : Int64) (n6 : Int32) (w : xW) : xstp (xca ev 100) 100 (xgo (xca ev 100) 100 (ev 100) 19) 29 [some (xD y0), none, some (xD y2), none, some (xJ v4), none, some (xI n6), none] [] w = b_X8_doubleBits_29 ev y0 y2 v4 n6 w := rfl
theorem e_X8_doubleBits_29 (y0 : UInt64) (y2 : UInt64) (v4 : Int64) (n6 : Int32) (w : xW) : xev 100 29 [some (xD y0), none, some (xD y2), none, some (xJ v4), none, some (xI n6), none] [] w = b_X8_doubleBits_29 xev y0 y2 v4 n6 w := (xev_go 100 19 29 [some (xD y0), none, some (xD y2), none, some (xJ v4), none, some (xI n6), none] [] w).trans (r_X8_doubleBits_29 xev y0 y2 v4 n6 w)
def b_X8_doubleBits_66 (ev : Nat → xK) (y0 : UInt64) (y2 : UInt64) (v4 : Int64) (n6 : Int32) (w : xW) : Option xR := if n6 < (200 : Int32) then if Op.cmpValue (FP.dcmp y2 (4841369599423283200 : UInt64)) .g < 0 then xnD (FP.dmul y2 (4611686018427387904 : UInt64)) fun z1 => ev 100 66 [some (xD y0), none, some (xD z1), none, some (xJ (v4 - (1 : Int64))), none, some (xI (n6 + (1 : Int32))), none] [] w else if Op.cmpValue (FP.dcmp y0 (0 : UInt64)) .g < 0 then some (some (xJ ((((FP.d2l y2) - (4503599627370496 : Int64)) + (v4 <<< ((52 : Int32).toInt64 &&& 63))) ||| (-9223372036854775808 : Int64))), w) else some (some (xJ (((FP.d2l y2) - (4503599627370496 : Int64)) + (v4 <<< ((52 : Int32).toInt64 &&& 63)))), w) else if Op.cmpValue (FP.dcmp y0 (0 : UInt64)) .g < 0 then some (some (xJ ((((FP.d2l y2) - (4503599627370496 : Int64)) + (v4 <<< ((52 : Int32).toInt64 &&& 63))) ||| (-9223372036854775808 : Int64))), w) else some (some (xJ (((FP.d2l y2) - (4503599627370496 : Int64)) + (v4 <<< ((52 : Int32).toInt64 &&& 63)))), w)
set_option maxRecDepth 100000 in
set_option maxHeartbeats 4000000 in
theorem r_X8_doubleBits_66 (ev : Nat → xK) (y0 : UInt64) (y2 : UInt64) (v4 : Int64) (n6 : Int32) (w : xW) : xstp (xca ev 100) 100 (xgo (xca ev 100) 100 (ev 100) 26) 66 [some (xD y0), none, some (xD y2), none, some (xJ v4), none, some (xI n6), none] [] w = b_X8_doubleBits_66 ev y0 y2 v4 n6 w := rfl
theorem e_X8_doubleBits_66 (y0 : UInt64) (y2 : UInt64) (v4 : Int64) (n6 : Int32) (w : xW) : xev 100 66 [some (xD y0), none, some (xD y2), none, some (xJ v4), none, some (xI n6), none] [] w = b_X8_doubleBits_66 xev y0 y2 v4 n6 w := (xev_go 100 26 66 [some (xD y0), none, some (xD y2), none, some (xJ v4), none, some (xI n6), none] [] w).trans (r_X8_doubleBits_66 xev y0 y2 v4 n6 w)
def b_X8_told_0 (ev : Nat → xK) (n0 : Int32) (v1 : Int64) (y3 : UInt64) (w : xW) : Option xR := if n0 = (6 : Int32) then (ev 99 0 [some (xD y3), none, none, none, none, none] [] w).bind fun p1 => xrI p1.1 fun i2 => some (some (xJ i2.toInt64), p1.2) else if n0 = (7 : Int32) then (ev 100 0 [some (xD y3), none, none, none, none, none, none, none] [] w).bind fun p3 => xrJ p3.1 fun j4 => some (some (xJ j4), p3.2) else some (some (xJ v1), w)
set_option maxRecDepth 100000 in
set_option maxHeartbeats 4000000 in
theorem r_X8_told_0 (ev : Nat → xK) (n0 : Int32) (v1 : Int64) (y3 : UInt64) (w : xW) : xstp (xca ev 101) 101 (xgo (xca ev 101) 101 (ev 101) 11) 0 [some (xI n0), some (xJ v1), none, some (xD y3), none] [] w = b_X8_told_0 ev n0 v1 y3 w := rfl
theorem e_X8_told_0 (n0 : Int32) (v1 : Int64) (y3 : UInt64) (w : xW) : xev 101 0 [some (xI n0), some (xJ v1), none, some (xD y3), none] [] w = b_X8_told_0 xev n0 v1 y3 w := (xev_go 101 11 0 [some (xI n0), some (xJ v1), none, some (xD y3), none] [] w).trans (r_X8_told_0 xev n0 v1 y3 w)
def b_X8_open_0 (ev : Nat → xK) (a0 : Nat) (n1 : Int32) (n2 : Int32) (n3 : Int32) (w : xW) : Option xR := (ev 89 0 [some (xI n1)] [] w).bind fun p1 => xrI p1.1 fun i2 => if i2 = 0 then some (some (xI (-1 : Int32)), p1.2) else (ev 88 0 [some (xJ n2.toInt64), none, some (xJ (0 : Int64)), none, some (xJ (15 : Int64)), none] [] p1.2).bind fun p3 => xrI p3.1 fun i4 => if i4 = 0 then some (some (xI (-2 : Int32)), p3.2) else if n2 < (13 : Int32) then (ev 88 0 [some (xJ n3.toInt64), none, some (xJ (0 : Int64)), none, some (xJ (24 : Int64)), none] [] p3.2).bind fun p5 => xrI p5.1 fun i6 => if i6 = 0 then some (some (xI (-2 : Int32)), p5.2) else if n2 = (14 : Int32) then (ev 88 0 [some (xJ n3.toInt64), none, some (xJ (0 : Int64)), none, some (xJ (99 : Int64)), none] [] p5.2).bind fun p7 => xrI p7.1 fun i8 => if i8 = 0 then some (some (xI (-2 : Int32)), p7.2) else if n2 = (13 : Int32) then (xgI p7.2 a0 7 13).bind fun i9 => if i9 = (60 : Int32) then some (some (xI (-4 : Int32)), p7.2) else if n2 < (13 : Int32) then (xobj p7.2 a0 7).bind fun _ => (ev 92 0 [some (xA (some a0)), some (xI (-6 : Int32)), none, none, none, none] [] p7.2).bind fun p10 => xrI p10.1 fun i11 => (xobj p10.2 a0 7).bind fun _ => (ev 93 0 [some (xA (some a0)), some (xI i11), some (xI n2), some (xI n3), none] [] p10.2).bind fun p12 => xrV p12.1 ((xgA p12.2 a0 7 5).bind fun r13 => r13.bind fun o15 => (xsI p12.2 o15 n1 i11).bind fun w14 => some (some (xI (0 : Int32)), w14)) else (xgA p7.2 a0 7 5).bind fun r16 => if n2 = (13 : Int32) then (xobj p7.2 a0 7).bind fun _ => (ev 103 0 [some (xA (some a0)), some (xI n3), some (xI (0 : Int32))] [] p7.2).bind fun p17 => xrI p17.1 fun i18 => r16.bind fun o20 => (xsI p17.2 o20 n1 ((1000 : Int32) + i18)).bind fun w19 => some (some (xI (0 : Int32)), w19) else if n2 = (14 : Int32) then r16.bind fun o22 => (xsI p7.2 o22 n1 ((100 : Int32) + n3)).bind fun w21 => some (some (xI (0 : Int32)), w21) else r16.bind fun o24 => (xsI p7.2 o24 n1 (-1 : Int32)).bind fun w23 => some (some (xI (0 : Int32)), w23) else if n2 < (13 : Int32) then (xobj p7.2 a0 7).bind fun _ => (ev 92 0 [some (xA (some a0)), some (xI (-6 : Int32)), none, none, none, none] [] p7.2).bind fun p25 => xrI p25.1 fun i26 => (xobj p25.2 a0 7).bind fun _ => (ev 93 0 [some (xA (some a0)), some (xI i26), some (xI n2), some (xI n3), none] [] p25.2).bind fun p27 => xrV p27.1 ((xgA p27.2 a0 7 5).bind fun r28 => r28.bind fun o30 => (xsI p27.2 o30 n1 i26).bind fun w29 => some (some (xI (0 : Int32)), w29)) else (xgA p7.2 a0 7 5).bind fun r31 => if n2 = (13 : Int32) then (xobj p7.2 a0 7).bind fun _ => (ev 103 0 [some (xA (some a0)), some (xI n3), some (xI (0 : Int32))] [] p7.2).bind fun p32 => xrI p32.1 fun i33 => r31.bind fun o35 => (xsI p32.2 o35 n1 ((1000 : Int32) + i33)).bind fun w34 => some (some (xI (0 : Int32)), w34) else if n2 = (14 : Int32) then r31.bind fun o37 => (xsI p7.2 o37 n1 ((100 : Int32) + n3)).bind fun w36 => some (some (xI (0 : Int32)), w36) else r31.bind fun o39 => (xsI p7.2 o39 n1 (-1 : Int32)).bind fun w38 => some (some (xI (0 : Int32)), w38) else if n2 = (13 : Int32) then (xgI p5.2 a0 7 13).bind fun i40 => if i40 = (60 : Int32) then some (some (xI (-4 : Int32)), p5.2) else if n2 < (13 : Int32) then (xobj p5.2 a0 7).bind fun _ => (ev 92 0 [some (xA (some a0)), some (xI (-6 : Int32)), none, none, none, none] [] p5.2).bind fun p41 => xrI p41.1 fun i42 => (xobj p41.2 a0 7).bind fun _ => (ev 93 0 [some (xA (some a0)), some (xI i42), some (xI n2), some (xI n3), none] [] p41.2).bind fun p43 => xrV p43.1 ((xgA p43.2 a0 7 5).bind fun r44 => r44.bind fun o46 => (xsI p43.2 o46 n1 i42).bind fun w45 => some (some (xI (0 : Int32)), w45)) else (xgA p5.2 a0 7 5).bind fun r47 => if n2 = (13 : Int32) then (xobj p5.2 a0 7).bind fun _ => (ev 103 0 [some (xA (some a0)), some (xI n3), some (xI (0 : Int32))] [] p5.2).bind fun p48 => xrI p48.1 fun i49 => r47.bind fun o51 => (xsI p48.2 o51 n1 ((1000 : Int32) + i49)).bind fun w50 => some (some (xI (0 : Int32)), w50) else if n2 = (14 : Int32) then r47.bind fun o53 => (xsI p5.2 o53 n1 ((100 : Int32) + n3)).bind fun w52 => some (some (xI (0 : Int32)), w52) else r47.bind fun o55 => (xsI p5.2 o55 n1 (-1 : Int32)).bind fun w54 => some (some (xI (0 : Int32)), w54) else if n2 < (13 : Int32) then (xobj p5.2 a0 7).bind fun _ => (ev 92 0 [some (xA (some a0)), some (xI (-6 : Int32)), none, none, none, none] [] p5.2).bind fun p56 => xrI p56.1 fun i57 => (xobj p56.2 a0 7).bind fun _ => (ev 93 0 [some (xA (some a0)), some (xI i57), some (xI n2), some (xI n3), none] [] p56.2).bind fun p58 => xrV p58.1 ((xgA p58.2 a0 7 5).bind fun r59 => r59.bind fun o61 => (xsI p58.2 o61 n1 i57).bind fun w60 => some (some (xI (0 : Int32)), w60)) else (xgA p5.2 a0 7 5).bind fun r62 => if n2 = (13 : Int32) then (xobj p5.2 a0 7).bind fun _ => (ev 103 0 [some (xA (some a0)), some (xI n3), some (xI (0 : Int32))] [] p5.2).bind fun p63 => xrI p63.1 fun i64 => r62.bind fun o66 => (xsI p63.2 o66 n1 ((1000 : Int32) + i64)).bind fun w65 => some (some (xI (0 : Int32)), w65) else if n2 = (14 : Int32) then r62.bind fun o68 => (xsI p5.2 o68 n1 ((100 : Int32) + n3)).bind fun w67 => some (some (xI (0 : Int32)), w67) else r62.bind fun o70 => (xsI p5.2 o70 n1 (-1 : Int32)).bind fun w69 => some (some (xI (0 : Int32)), w69) else if n2 = (14 : Int32) then (ev 88 0 [some (xJ n3.toInt64), none, some (xJ (0 : Int64)), none, some (xJ (99 : Int64)), none] [] p3.2).bind fun p71 => xrI p71.1 fun i72 => if i72 = 0 then some (some (xI (-2 : Int32)), p71.2) else if n2 = (13 : Int32) then (xgI p71.2 a0 7 13).bind fun i73 => if i73 = (60 : Int32) then some (some (xI (-4 : Int32)), p71.2) else if n2 < (13 : Int32) then (xobj p71.2 a0 7).bind fun _ => (ev 92 0 [some (xA (some a0)), some (xI (-6 : Int32)), none, none, none, none] [] p71.2).bind fun p74 => xrI p74.1 fun i75 => (xobj p74.2 a0 7).bind fun _ => (ev 93 0 [some (xA (some a0)), some (xI i75), some (xI n2), some (xI n3), none] [] p74.2).bind fun p76 => xrV p76.1 ((xgA p76.2 a0 7 5).bind fun r77 => r77.bind fun o79 => (xsI p76.2 o79 n1 i75).bind fun w78 => some (some (xI (0 : Int32)), w78)) else (xgA p71.2 a0 7 5).bind fun r80 => if n2 = (13 : Int32) then (xobj p71.2 a0 7).bind fun _ => (ev 103 0 [some (xA (some a0)), some (xI n3), some (xI (0 : Int32))] [] p71.2).bind fun p81 => xrI p81.1 fun i82 => r80.bind fun o84 => (xsI p81.2 o84 n1 ((1000 : Int32) + i82)).bind fun w83 => some (some (xI (0 : Int32)), w83) else if n2 = (14 : Int32) then r80.bind fun o86 => (xsI p71.2 o86 n1 ((100 : Int32) + n3)).bind fun w85 => some (some (xI (0 : Int32)), w85) else r80.bind fun o88 => (xsI p71.2 o88 n1 (-1 : Int32)).bind fun w87 => some (some (xI (0 : Int32)), w87) else if n2 < (13 : Int32) then (xobj p71.2 a0 7).bind fun _ => (ev 92 0 [some (xA (some a0)), some (xI (-6 : Int32)), none, none, none, none] [] p71.2).bind fun p89 => xrI p89.1 fun i90 => (xobj p89.2 a0 7).bind fun _ => (ev 93 0 [some (xA (some a0)), some (xI i90), some (xI n2), some (xI n3), none] [] p89.2).bind fun p91 => xrV p91.1 ((xgA p91.2 a0 7 5).bind fun r92 => r92.bind fun o94 => (xsI p91.2 o94 n1 i90).bind fun w93 => some (some (xI (0 : Int32)), w93)) else (xgA p71.2 a0 7 5).bind fun r95 => if n2 = (13 : Int32) then (xobj p71.2 a0 7).bind fun _ => (ev 103 0 [some (xA (some a0)), some (xI n3), some (xI (0 : Int32))] [] p71.2).bind fun p96 => xrI p96.1 fun i97 => r95.bind fun o99 => (xsI p96.2 o99 n1 ((1000 : Int32) + i97)).bind fun w98 => some (some (xI (0 : Int32)), w98) else if n2 = (14 : Int32) then r95.bind fun o101 => (xsI p71.2 o101 n1 ((100 : Int32) + n3)).bind fun w100 => some (some (xI (0 : Int32)), w100) else r95.bind fun o103 => (xsI p71.2 o103 n1 (-1 : Int32)).bind fun w102 => some (some (xI (0 : Int32)), w102) else if n2 = (13 : Int32) then (xgI p3.2 a0 7 13).bind fun i104 => if i104 = (60 : Int32) then some (some (xI (-4 : Int32)), p3.2) else if n2 < (13 : Int32) then (xobj p3.2 a0 7).bind fun _ => (ev 92 0 [some (xA (some a0)), some (xI (-6 : Int32)), none, none, none, none] [] p3.2).bind fun p105 => xrI p105.1 fun i106 => (xobj p105.2 a0 7).bind fun _ => (ev 93 0 [some (xA (some a0)), some (xI i106), some (xI n2), some (xI n3), none] [] p105.2).bind fun p107 => xrV p107.1 ((xgA p107.2 a0 7 5).bind fun r108 => r108.bind fun o110 => (xsI p107.2 o110 n1 i106).bind fun w109 => some (some (xI (0 : Int32)), w109)) else (xgA p3.2 a0 7 5).bind fun r111 => if n2 = (13 : Int32) then (xobj p3.2 a0 7).bind fun _ => (ev 103 0 [some (xA (some a0)), some (xI n3), some (xI (0 : Int32))] [] p3.2).bind fun p112 => xrI p112.1 fun i113 => r111.bind fun o115 => (xsI p112.2 o115 n1 ((1000 : Int32) + i113)).bind fun w114 => some (some (xI (0 : Int32)), w114) else if n2 = (14 : Int32) then r111.bind fun o117 => (xsI p3.2 o117 n1 ((100 : Int32) + n3)).bind fun w116 => some (some (xI (0 : Int32)), w116) else r111.bind fun o119 => (xsI p3.2 o119 n1 (-1 : Int32)).bind fun w118 => some (some (xI (0 : Int32)), w118) else if n2 < (13 : Int32) then (xobj p3.2 a0 7).bind fun _ => (ev 92 0 [some (xA (some a0)), some (xI (-6 : Int32)), none, none, none, none] [] p3.2).bind fun p120 => xrI p120.1 fun i121 => (xobj p120.2 a0 7).bind fun _ => (ev 93 0 [some (xA (some a0)), some (xI i121), some (xI n2), some (xI n3), none] [] p120.2).bind fun p122 => xrV p122.1 ((xgA p122.2 a0 7 5).bind fun r123 => r123.bind fun o125 => (xsI p122.2 o125 n1 i121).bind fun w124 => some (some (xI (0 : Int32)), w124)) else (xgA p3.2 a0 7 5).bind fun r126 => if n2 = (13 : Int32) then (xobj p3.2 a0 7).bind fun _ => (ev 103 0 [some (xA (some a0)), some (xI n3), some (xI (0 : Int32))] [] p3.2).bind fun p127 => xrI p127.1 fun i128 => r126.bind fun o130 => (xsI p127.2 o130 n1 ((1000 : Int32) + i128)).bind fun w129 => some (some (xI (0 : Int32)), w129) else if n2 = (14 : Int32) then r126.bind fun o132 => (xsI p3.2 o132 n1 ((100 : Int32) + n3)).bind fun w131 => some (some (xI (0 : Int32)), w131) else r126.bind fun o134 => (xsI p3.2 o134 n1 (-1 : Int32)).bind fun w133 => some (some (xI (0 : Int32)), w133)
set_option maxRecDepth 100000 in
set_option maxHeartbeats 4000000 in
theorem r_X8_open_0 (ev : Nat → xK) (a0 : Nat) (n1 : Int32) (n2 : Int32) (n3 : Int32) (w : xW) : xstp (xca ev 102) 102 (xgo (xca ev 102) 102 (ev 102) 55) 0 [some (xA (some a0)), some (xI n1), some (xI n2), some (xI n3), none] [] w = b_X8_open_0 ev a0 n1 n2 n3 w := rfl
theorem e_X8_open_0 (a0 : Nat) (n1 : Int32) (n2 : Int32) (n3 : Int32) (w : xW) : xev 102 0 [some (xA (some a0)), some (xI n1), some (xI n2), some (xI n3), none] [] w = b_X8_open_0 xev a0 n1 n2 n3 w := (xev_go 102 55 0 [some (xA (some a0)), some (xI n1), some (xI n2), some (xI n3), none] [] w).trans (r_X8_open_0 xev a0 n1 n2 n3 w)
def b_X8_newStone_0 (ev : Nat → xK) (a0 : Nat) (n1 : Int32) (n2 : Int32) (w : xW) : Option xR := (xgI w a0 7 13).bind fun i1 => (xput w a0 7 13 (xI (i1 + (1 : Int32)))).bind fun w2 => (xgA w2 a0 7 11).bind fun r3 => (xgI w2 a0 7 13).bind fun i4 => r3.bind fun o6 => (xsI w2 o6 i4 n1).bind fun w5 => (xgA w5 a0 7 12).bind fun r7 => (xgI w5 a0 7 13).bind fun i8 => r7.bind fun o10 => (xsZ w5 o10 i8 n2).bind fun w9 => (xgI w9 a0 7 13).bind fun i11 => some (some (xI i11), w9)
set_option maxRecDepth 100000 in
set_option maxHeartbeats 4000000 in
theorem r_X8_newStone_0 (ev : Nat → xK) (a0 : Nat) (n1 : Int32) (n2 : Int32) (w : xW) : xstp (xca ev 103) 103 (xgo (xca ev 103) 103 (ev 103) 22) 0 [some (xA (some a0)), some (xI n1), some (xI n2)] [] w = b_X8_newStone_0 ev a0 n1 n2 w := rfl
theorem e_X8_newStone_0 (a0 : Nat) (n1 : Int32) (n2 : Int32) (w : xW) : xev 103 0 [some (xA (some a0)), some (xI n1), some (xI n2)] [] w = b_X8_newStone_0 xev a0 n1 n2 w := (xev_go 103 22 0 [some (xA (some a0)), some (xI n1), some (xI n2)] [] w).trans (r_X8_newStone_0 xev a0 n1 n2 w)
def b_X8_hang_0 (ev : Nat → xK) (a0 : Nat) (n1 : Int32) (n2 : Int32) (n3 : Int32) (w : xW) : Option xR := (ev 89 0 [some (xI n1)] [] w).bind fun p1 => xrI p1.1 fun i2 => if i2 = 0 then some (some (xI (-1 : Int32)), p1.2) else (ev 89 0 [some (xI n2)] [] p1.2).bind fun p3 => xrI p3.1 fun i4 => if i4 = 0 then some (some (xI (-1 : Int32)), p3.2) else (ev 88 0 [some (xJ n3.toInt64), none, some (xJ (0 : Int64)), none, some (xJ (1 : Int64)), none] [] p3.2).bind fun p5 => xrI p5.1 fun i6 => if i6 = 0 then some (some (xI (-2 : Int32)), p5.2) else if n3 = 0 then (xgA p5.2 a0 7 5).bind fun r7 => (xgA p5.2 a0 7 5).bind fun r8 => r8.bind fun o10 => (xaI p5.2 o10 n1).bind fun i9 => r7.bind fun o12 => (xsI p5.2 o12 n2 i9).bind fun w11 => some (some (xI (0 : Int32)), w11) else (xobj p5.2 a0 7).bind fun _ => (ev 91 0 [some (xA (some a0)), some (xI n1)] [] p5.2).bind fun p13 => xrI p13.1 fun i14 => if i14 = 0 then (xgA p13.2 a0 7 5).bind fun r15 => r15.bind fun o17 => (xaI p13.2 o17 n1).bind fun i16 => (xobj p13.2 a0 7).bind fun _ => (ev 92 0 [some (xA (some a0)), some (xI (-6 : Int32)), none, none, none, none] [] p13.2).bind fun p18 => xrI p18.1 fun i19 => (xgA p18.2 a0 7 0).bind fun r20 => r20.bind fun o22 => (xaI p18.2 o22 i16).bind fun i21 => (xgA p18.2 a0 7 1).bind fun r23 => r23.bind fun o25 => (xaI p18.2 o25 i16).bind fun i24 => (xobj p18.2 a0 7).bind fun _ => (ev 93 0 [some (xA (some a0)), some (xI i19), some (xI i21), some (xI i24), none] [] p18.2).bind fun p26 => xrV p26.1 (ev 104 100 [some (xA (some a0)), none, some (xI n2), none, some (xI i16), some (xI i19), some (xI (0 : Int32))] [] p26.2) else (xobj p13.2 a0 7).bind fun _ => (ev 91 0 [some (xA (some a0)), some (xI n1)] [] p13.2).bind fun p27 => xrI p27.1 fun i28 => some (some (xI i28), p27.2)
set_option maxRecDepth 100000 in
set_option maxHeartbeats 4000000 in
theorem r_X8_hang_0 (ev : Nat → xK) (a0 : Nat) (n1 : Int32) (n2 : Int32) (n3 : Int32) (w : xW) : xstp (xca ev 104) 104 (xgo (xca ev 104) 104 (ev 104) 42) 0 [some (xA (some a0)), some (xI n1), some (xI n2), some (xI n3), none, none, none] [] w = b_X8_hang_0 ev a0 n1 n2 n3 w := rfl
theorem e_X8_hang_0 (a0 : Nat) (n1 : Int32) (n2 : Int32) (n3 : Int32) (w : xW) : xev 104 0 [some (xA (some a0)), some (xI n1), some (xI n2), some (xI n3), none, none, none] [] w = b_X8_hang_0 xev a0 n1 n2 n3 w := (xev_go 104 42 0 [some (xA (some a0)), some (xI n1), some (xI n2), some (xI n3), none, none, none] [] w).trans (r_X8_hang_0 xev a0 n1 n2 n3 w)
def b_X8_hang_100 (ev : Nat → xK) (a0 : Nat) (n2 : Int32) (n4 : Int32) (n5 : Int32) (n6 : Int32) (w : xW) : Option xR := (xgA w a0 7 1).bind fun r1 => r1.bind fun o3 => (xaI w o3 n4).bind fun i2 => if n6 < i2 then (xobj w a0 7).bind fun _ => (ev 95 0 [some (xA (some a0)), some (xI (((24 : Int32) * n4) + n6)), some (xI (((24 : Int32) * n5) + n6))] [] w).bind fun p4 => xrV p4.1 (ev 104 100 [some (xA (some a0)), none, some (xI n2), none, some (xI n4), some (xI n5), some (xI (n6 + (1 : Int32)))] [] p4.2) else (xgA w a0 7 5).bind fun r5 => r5.bind fun o7 => (xsI w o7 n2 n5).bind fun w6 => some (some (xI (0 : Int32)), w6)
set_option maxRecDepth 100000 in
set_option maxHeartbeats 4000000 in
theorem r_X8_hang_100 (ev : Nat → xK) (a0 : Nat) (n2 : Int32) (n4 : Int32) (n5 : Int32) (n6 : Int32) (w : xW) : xstp (xca ev 104) 104 (xgo (xca ev 104) 104 (ev 104) 22) 100 [some (xA (some a0)), none, some (xI n2), none, some (xI n4), some (xI n5), some (xI n6)] [] w = b_X8_hang_100 ev a0 n2 n4 n5 n6 w := rfl
theorem e_X8_hang_100 (a0 : Nat) (n2 : Int32) (n4 : Int32) (n5 : Int32) (n6 : Int32) (w : xW) : xev 104 100 [some (xA (some a0)), none, some (xI n2), none, some (xI n4), some (xI n5), some (xI n6)] [] w = b_X8_hang_100 xev a0 n2 n4 n5 n6 w := (xev_go 104 22 100 [some (xA (some a0)), none, some (xI n2), none, some (xI n4), some (xI n5), some (xI n6)] [] w).trans (r_X8_hang_100 xev a0 n2 n4 n5 n6 w)
end
section
def b_X8_same_0 (ev : Nat → xK) (a0 : Nat) (n1 : Int32) (n2 : Int32) (w : xW) : Option xR := (ev 89 0 [some (xI n1)] [] w).bind fun p1 => xrI p1.1 fun i2 => if i2 = 0 then some (some (xI (-1 : Int32)), p1.2) else (ev 89 0 [some (xI n2)] [] p1.2).bind fun p3 => xrI p3.1 fun i4 => if i4 = 0 then some (some (xI (-1 : Int32)), p3.2) else (xobj p3.2 a0 7).bind fun _ => (ev 90 0 [some (xA (some a0)), some (xI n1)] [] p3.2).bind fun p5 => xrI p5.1 fun i6 => if i6 = 0 then some (some (xI (0 : Int32)), p5.2) else (xgA p5.2 a0 7 5).bind fun r7 => r7.bind fun o9 => (xaI p5.2 o9 n1).bind fun i8 => (xgA p5.2 a0 7 5).bind fun r10 => r10.bind fun o12 => (xaI p5.2 o12 n2).bind fun i11 => if i8 = i11 then some (some (xI (1 : Int32)), p5.2) else some (some (xI (0 : Int32)), p5.2)
set_option maxRecDepth 100000 in
set_option maxHeartbeats 4000000 in
theorem r_X8_same_0 (ev : Nat → xK) (a0 : Nat) (n1 : Int32) (n2 : Int32) (w : xW) : xstp (xca ev 105) 105 (xgo (xca ev 105) 105 (ev 105) 23) 0 [some (xA (some a0)), some (xI n1), some (xI n2)] [] w = b_X8_same_0 ev a0 n1 n2 w := rfl
theorem e_X8_same_0 (a0 : Nat) (n1 : Int32) (n2 : Int32) (w : xW) : xev 105 0 [some (xA (some a0)), some (xI n1), some (xI n2)] [] w = b_X8_same_0 xev a0 n1 n2 w := (xev_go 105 23 0 [some (xA (some a0)), some (xI n1), some (xI n2)] [] w).trans (r_X8_same_0 xev a0 n1 n2 w)
def b_X8_counted_0 (ev : Nat → xK) (a0 : Nat) (n1 : Int32) (n2 : Int32) (w : xW) : Option xR := (xgA w a0 7 14).bind fun r1 => r1.bind fun o3 => (xaI w o3 (((6 : Int32) * n1) + n2)).bind fun i2 => r1.bind fun o5 => (xsI w o5 (((6 : Int32) * n1) + n2) (i2 + (1 : Int32))).bind fun w4 => some (some (xI n2), w4)
set_option maxRecDepth 100000 in
set_option maxHeartbeats 4000000 in
theorem r_X8_counted_0 (ev : Nat → xK) (a0 : Nat) (n1 : Int32) (n2 : Int32) (w : xW) : xstp (xca ev 106) 106 (xgo (xca ev 106) 106 (ev 106) 15) 0 [some (xA (some a0)), some (xI n1), some (xI n2)] [] w = b_X8_counted_0 ev a0 n1 n2 w := rfl
theorem e_X8_counted_0 (a0 : Nat) (n1 : Int32) (n2 : Int32) (w : xW) : xev 106 0 [some (xA (some a0)), some (xI n1), some (xI n2)] [] w = b_X8_counted_0 xev a0 n1 n2 w := (xev_go 106 15 0 [some (xA (some a0)), some (xI n1), some (xI n2)] [] w).trans (r_X8_counted_0 xev a0 n1 n2 w)
def b_X8_length_0 (ev : Nat → xK) (a0 : Nat) (n1 : Int32) (w : xW) : Option xR := (ev 89 0 [some (xI n1)] [] w).bind fun p1 => xrI p1.1 fun i2 => if i2 = 0 then some (some (xI (-1 : Int32)), p1.2) else (xobj p1.2 a0 7).bind fun _ => (ev 91 0 [some (xA (some a0)), some (xI n1)] [] p1.2).bind fun p3 => xrI p3.1 fun i4 => (xobj p3.2 a0 7).bind fun _ => (ev 106 0 [some (xA (some a0)), some (xI (18 : Int32)), some (xI i4)] [] p3.2).bind fun p5 => xrI p5.1 fun i6 => if i6 = 0 then (xgA p5.2 a0 7 1).bind fun r7 => (xgA p5.2 a0 7 5).bind fun r8 => r8.bind fun o10 => (xaI p5.2 o10 n1).bind fun i9 => r7.bind fun o12 => (xaI p5.2 o12 i9).bind fun i11 => some (some (xI i11), p5.2) else some (some (xI ((-10 : Int32) - i6)), p5.2)
set_option maxRecDepth 100000 in
set_option maxHeartbeats 4000000 in
theorem r_X8_length_0 (ev : Nat → xK) (a0 : Nat) (n1 : Int32) (w : xW) : xstp (xca ev 107) 107 (xgo (xca ev 107) 107 (ev 107) 22) 0 [some (xA (some a0)), some (xI n1), none] [] w = b_X8_length_0 ev a0 n1 w := rfl
theorem e_X8_length_0 (a0 : Nat) (n1 : Int32) (w : xW) : xev 107 0 [some (xA (some a0)), some (xI n1), none] [] w = b_X8_length_0 xev a0 n1 w := (xev_go 107 22 0 [some (xA (some a0)), some (xI n1), none] [] w).trans (r_X8_length_0 xev a0 n1 w)
def b_X8_read0_0 (ev : Nat → xK) (a0 : Nat) (n1 : Int32) (n2 : Int32) (n3 : Int32) (w : xW) : Option xR := (xobj w a0 7).bind fun _ => (ev 91 0 [some (xA (some a0)), some (xI n1)] [] w).bind fun p1 => xrI p1.1 fun i2 => if i2 = 0 then (xgA p1.2 a0 7 5).bind fun r3 => r3.bind fun o5 => (xaI p1.2 o5 n1).bind fun i4 => (xgA p1.2 a0 7 0).bind fun r6 => r6.bind fun o8 => (xaI p1.2 o8 i4).bind fun i7 => if (7 : Int32) < i7 then some (some (xI (3 : Int32)), p1.2) else (xgA p1.2 a0 7 1).bind fun r9 => r9.bind fun o11 => (xaI p1.2 o11 i4).bind fun i10 => (ev 88 0 [some (xJ n2.toInt64), none, some (xJ (0 : Int64)), none, some (xJ ((i10 - (1 : Int32)).toInt64)), none] [] p1.2).bind fun p12 => xrI p12.1 fun i13 => if i13 = 0 then some (some (xI (4 : Int32)), p12.2) else (xgA p12.2 a0 7 0).bind fun r14 => r14.bind fun o16 => (xaI p12.2 o16 i4).bind fun i15 => (ev 97 0 [some (xI i15), some (xI n3)] [] p12.2).bind fun p17 => xrI p17.1 fun i18 => if i18 = 0 then some (some (xI (5 : Int32)), p17.2) else if n3 < (6 : Int32) then (xgA p17.2 a0 7 3).bind fun r19 => r19.bind fun o21 => (xaJ p17.2 o21 (((24 : Int32) * i4) + n2)).bind fun j20 => (xput p17.2 a0 7 21 (xJ j20)).bind fun w22 => (xgA w22 a0 7 0).bind fun r23 => r23.bind fun o25 => (xaI w22 o25 i4).bind fun i24 => (xgA w22 a0 7 3).bind fun r26 => r26.bind fun o28 => (xaJ w22 o28 (((24 : Int32) * i4) + n2)).bind fun j27 => (xgA w22 a0 7 4).bind fun r29 => r29.bind fun o31 => (xaD w22 o31 (((24 : Int32) * i4) + n2)).bind fun d30 => (ev 98 0 [some (xI i24), some (xI n3), some (xJ j27), none, some (xD d30), none] [] w22).bind fun p32 => xrD p32.1 fun d33 => (xput p32.2 a0 7 22 (xD d33)).bind fun w34 => (xgJ w34 a0 7 21).bind fun j35 => (xgD w34 a0 7 22).bind fun d36 => (ev 101 0 [some (xI n3), some (xJ j35), none, some (xD d36), none] [] w34).bind fun p37 => xrJ p37.1 fun j38 => (xput p37.2 a0 7 10 (xJ j38)).bind fun w39 => some (some (xI (0 : Int32)), w39) else (xput p17.2 a0 7 21 (xJ (0 : Int64))).bind fun w40 => (xgA w40 a0 7 0).bind fun r41 => r41.bind fun o43 => (xaI w40 o43 i4).bind fun i42 => (xgA w40 a0 7 3).bind fun r44 => r44.bind fun o46 => (xaJ w40 o46 (((24 : Int32) * i4) + n2)).bind fun j45 => (xgA w40 a0 7 4).bind fun r47 => r47.bind fun o49 => (xaD w40 o49 (((24 : Int32) * i4) + n2)).bind fun d48 => (ev 98 0 [some (xI i42), some (xI n3), some (xJ j45), none, some (xD d48), none] [] w40).bind fun p50 => xrD p50.1 fun d51 => (xput p50.2 a0 7 22 (xD d51)).bind fun w52 => (xgJ w52 a0 7 21).bind fun j53 => (xgD w52 a0 7 22).bind fun d54 => (ev 101 0 [some (xI n3), some (xJ j53), none, some (xD d54), none] [] w52).bind fun p55 => xrJ p55.1 fun j56 => (xput p55.2 a0 7 10 (xJ j56)).bind fun w57 => some (some (xI (0 : Int32)), w57) else (xobj p1.2 a0 7).bind fun _ => (ev 91 0 [some (xA (some a0)), some (xI n1)] [] p1.2).bind fun p58 => xrI p58.1 fun i59 => some (some (xI i59), p58.2)
set_option maxRecDepth 100000 in
set_option maxHeartbeats 4000000 in
theorem r_X8_read0_0 (ev : Nat → xK) (a0 : Nat) (n1 : Int32) (n2 : Int32) (n3 : Int32) (w : xW) : xstp (xca ev 108) 108 (xgo (xca ev 108) 108 (ev 108) 77) 0 [some (xA (some a0)), some (xI n1), some (xI n2), some (xI n3), none, none] [] w = b_X8_read0_0 ev a0 n1 n2 n3 w := rfl
theorem e_X8_read0_0 (a0 : Nat) (n1 : Int32) (n2 : Int32) (n3 : Int32) (w : xW) : xev 108 0 [some (xA (some a0)), some (xI n1), some (xI n2), some (xI n3), none, none] [] w = b_X8_read0_0 xev a0 n1 n2 n3 w := (xev_go 108 77 0 [some (xA (some a0)), some (xI n1), some (xI n2), some (xI n3), none, none] [] w).trans (r_X8_read0_0 xev a0 n1 n2 n3 w)
def b_X8_read_0 (ev : Nat → xK) (a0 : Nat) (n1 : Int32) (n2 : Int32) (n3 : Int32) (w : xW) : Option xR := (ev 89 0 [some (xI n1)] [] w).bind fun p1 => xrI p1.1 fun i2 => if i2 = 0 then some (some (xI (-1 : Int32)), p1.2) else (ev 88 0 [some (xJ n3.toInt64), none, some (xJ (0 : Int64)), none, some (xJ (7 : Int64)), none] [] p1.2).bind fun p3 => xrI p3.1 fun i4 => if i4 = 0 then some (some (xI (-2 : Int32)), p3.2) else (xobj p3.2 a0 7).bind fun _ => (ev 108 0 [some (xA (some a0)), some (xI n1), some (xI n2), some (xI n3), none, none] [] p3.2).bind fun p5 => xrI p5.1 fun i6 => (xobj p5.2 a0 7).bind fun _ => (ev 106 0 [some (xA (some a0)), some (xI n3), some (xI i6)] [] p5.2).bind fun p7 => xrI p7.1 fun i8 => some (some (xI i8), p7.2)
set_option maxRecDepth 100000 in
set_option maxHeartbeats 4000000 in
theorem r_X8_read_0 (ev : Nat → xK) (a0 : Nat) (n1 : Int32) (n2 : Int32) (n3 : Int32) (w : xW) : xstp (xca ev 109) 109 (xgo (xca ev 109) 109 (ev 109) 20) 0 [some (xA (some a0)), some (xI n1), some (xI n2), some (xI n3)] [] w = b_X8_read_0 ev a0 n1 n2 n3 w := rfl
theorem e_X8_read_0 (a0 : Nat) (n1 : Int32) (n2 : Int32) (n3 : Int32) (w : xW) : xev 109 0 [some (xA (some a0)), some (xI n1), some (xI n2), some (xI n3)] [] w = b_X8_read_0 xev a0 n1 n2 n3 w := (xev_go 109 20 0 [some (xA (some a0)), some (xI n1), some (xI n2), some (xI n3)] [] w).trans (r_X8_read_0 xev a0 n1 n2 n3 w)
def b_X8_glass_0 (ev : Nat → xK) (a0 : Nat) (w : xW) : Option xR := (xgJ w a0 7 10).bind fun j1 => some (some (xJ j1), w)
set_option maxRecDepth 100000 in
set_option maxHeartbeats 4000000 in
theorem r_X8_glass_0 (ev : Nat → xK) (a0 : Nat) (w : xW) : xstp (xca ev 110) 110 (xgo (xca ev 110) 110 (ev 110) 4) 0 [some (xA (some a0))] [] w = b_X8_glass_0 ev a0 w := rfl
theorem e_X8_glass_0 (a0 : Nat) (w : xW) : xev 110 0 [some (xA (some a0))] [] w = b_X8_glass_0 xev a0 w := (xev_go 110 4 0 [some (xA (some a0))] [] w).trans (r_X8_glass_0 xev a0 w)
def b_X8_write0_0 (ev : Nat → xK) (a0 : Nat) (n1 : Int32) (n2 : Int32) (n3 : Int32) (v4 : Int64) (y6 : UInt64) (w : xW) : Option xR := (xobj w a0 7).bind fun _ => (ev 91 0 [some (xA (some a0)), some (xI n1)] [] w).bind fun p1 => xrI p1.1 fun i2 => if i2 = 0 then (xgA p1.2 a0 7 5).bind fun r3 => r3.bind fun o5 => (xaI p1.2 o5 n1).bind fun i4 => (xgA p1.2 a0 7 0).bind fun r6 => r6.bind fun o8 => (xaI p1.2 o8 i4).bind fun i7 => if (7 : Int32) < i7 then some (some (xI (3 : Int32)), p1.2) else (xgA p1.2 a0 7 1).bind fun r9 => r9.bind fun o11 => (xaI p1.2 o11 i4).bind fun i10 => (ev 88 0 [some (xJ n2.toInt64), none, some (xJ (0 : Int64)), none, some (xJ ((i10 - (1 : Int32)).toInt64)), none] [] p1.2).bind fun p12 => xrI p12.1 fun i13 => if i13 = 0 then some (some (xI (4 : Int32)), p12.2) else (xgA p12.2 a0 7 0).bind fun r14 => r14.bind fun o16 => (xaI p12.2 o16 i4).bind fun i15 => (ev 97 0 [some (xI n3), some (xI i15)] [] p12.2).bind fun p17 => xrI p17.1 fun i18 => if i18 = 0 then some (some (xI (5 : Int32)), p17.2) else (xgA p17.2 a0 7 0).bind fun r19 => r19.bind fun o21 => (xaI p17.2 o21 i4).bind fun i20 => (xobj p17.2 a0 7).bind fun _ => (ev 113 0 [some (xA (some a0)), some (xI (((24 : Int32) * i4) + n2)), some (xI i20), some (xI n3), some (xJ v4), none, some (xD y6), none] [] p17.2).bind fun p22 => xrV p22.1 (some (some (xI (0 : Int32)), p22.2)) else (xobj p1.2 a0 7).bind fun _ => (ev 91 0 [some (xA (some a0)), some (xI n1)] [] p1.2).bind fun p23 => xrI p23.1 fun i24 => some (some (xI i24), p23.2)
set_option maxRecDepth 100000 in
set_option maxHeartbeats 4000000 in
theorem r_X8_write0_0 (ev : Nat → xK) (a0 : Nat) (n1 : Int32) (n2 : Int32) (n3 : Int32) (v4 : Int64) (y6 : UInt64) (w : xW) : xstp (xca ev 111) 111 (xgo (xca ev 111) 111 (ev 111) 51) 0 [some (xA (some a0)), some (xI n1), some (xI n2), some (xI n3), some (xJ v4), none, some (xD y6), none, none] [] w = b_X8_write0_0 ev a0 n1 n2 n3 v4 y6 w := rfl
theorem e_X8_write0_0 (a0 : Nat) (n1 : Int32) (n2 : Int32) (n3 : Int32) (v4 : Int64) (y6 : UInt64) (w : xW) : xev 111 0 [some (xA (some a0)), some (xI n1), some (xI n2), some (xI n3), some (xJ v4), none, some (xD y6), none, none] [] w = b_X8_write0_0 xev a0 n1 n2 n3 v4 y6 w := (xev_go 111 51 0 [some (xA (some a0)), some (xI n1), some (xI n2), some (xI n3), some (xJ v4), none, some (xD y6), none, none] [] w).trans (r_X8_write0_0 xev a0 n1 n2 n3 v4 y6 w)
def b_X8_write_0 (ev : Nat → xK) (a0 : Nat) (n1 : Int32) (n2 : Int32) (n3 : Int32) (v4 : Int64) (w : xW) : Option xR := (ev 89 0 [some (xI n1)] [] w).bind fun p1 => xrI p1.1 fun i2 => if i2 = 0 then some (some (xI (-1 : Int32)), p1.2) else (ev 88 0 [some (xJ n3.toInt64), none, some (xJ (0 : Int64)), none, some (xJ (7 : Int64)), none] [] p1.2).bind fun p3 => xrI p3.1 fun i4 => if i4 = 0 then some (some (xI (-2 : Int32)), p3.2) else (xobj p3.2 a0 7).bind fun _ => (ev 96 0 [some (xA (some a0)), some (xI n3), some (xJ v4), none] [] p3.2).bind fun p5 => xrV p5.1 ((xgJ p5.2 a0 7 19).bind fun j6 => (xgD p5.2 a0 7 20).bind fun d7 => (xobj p5.2 a0 7).bind fun _ => (ev 111 0 [some (xA (some a0)), some (xI n1), some (xI n2), some (xI n3), some (xJ j6), none, some (xD d7), none, none] [] p5.2).bind fun p8 => xrI p8.1 fun i9 => (xobj p8.2 a0 7).bind fun _ => (ev 106 0 [some (xA (some a0)), some (xI ((9 : Int32) + n3)), some (xI i9)] [] p8.2).bind fun p10 => xrI p10.1 fun i11 => some (some (xI i11), p10.2))
set_option maxRecDepth 100000 in
set_option maxHeartbeats 4000000 in
theorem r_X8_write_0 (ev : Nat → xK) (a0 : Nat) (n1 : Int32) (n2 : Int32) (n3 : Int32) (v4 : Int64) (w : xW) : xstp (xca ev 112) 112 (xgo (xca ev 112) 112 (ev 112) 29) 0 [some (xA (some a0)), some (xI n1), some (xI n2), some (xI n3), some (xJ v4), none] [] w = b_X8_write_0 ev a0 n1 n2 n3 v4 w := rfl
theorem e_X8_write_0 (a0 : Nat) (n1 : Int32) (n2 : Int32) (n3 : Int32) (v4 : Int64) (w : xW) : xev 112 0 [some (xA (some a0)), some (xI n1), some (xI n2), some (xI n3), some (xJ v4), none] [] w = b_X8_write_0 xev a0 n1 n2 n3 v4 w := (xev_go 112 29 0 [some (xA (some a0)), some (xI n1), some (xI n2), some (xI n3), some (xJ v4), none] [] w).trans (r_X8_write_0 xev a0 n1 n2 n3 v4 w)
def b_X8_lay0_0 (ev : Nat → xK) (a0 : Nat) (n1 : Int32) (n2 : Int32) (n3 : Int32) (v4 : Int64) (y6 : UInt64) (w : xW) : Option xR := if (7 : Int32) < n2 then (xobj w a0 7).bind fun _ => (ev 94 0 [some (xA (some a0)), some (xI n1), some (xI n3), some (xJ v4), none, some (xD y6), none] [] w).bind fun p1 => xrV p1.1 (some (none, p1.2)) else if n2 < (6 : Int32) then (ev 98 0 [some (xI n3), some (xI n2), some (xJ v4), none, some (xD y6), none] [] w).bind fun p2 => xrD p2.1 fun d3 => (xobj p2.2 a0 7).bind fun _ => (ev 94 0 [some (xA (some a0)), some (xI n1), some (xI n2), some (xJ v4), none, some (xD d3), none] [] p2.2).bind fun p4 => xrV p4.1 (some (none, p4.2)) else (ev 98 0 [some (xI n3), some (xI n2), some (xJ v4), none, some (xD y6), none] [] w).bind fun p5 => xrD p5.1 fun d6 => (xobj p5.2 a0 7).bind fun _ => (ev 94 0 [some (xA (some a0)), some (xI n1), some (xI n2), some (xJ (0 : Int64)), none, some (xD d6), none] [] p5.2).bind fun p7 => xrV p7.1 (some (none, p7.2))
set_option maxRecDepth 100000 in
set_option maxHeartbeats 4000000 in
theorem r_X8_lay0_0 (ev : Nat → xK) (a0 : Nat) (n1 : Int32) (n2 : Int32) (n3 : Int32) (v4 : Int64) (y6 : UInt64) (w : xW) : xstp (xca ev 113) 113 (xgo (xca ev 113) 113 (ev 113) 19) 0 [some (xA (some a0)), some (xI n1), some (xI n2), some (xI n3), some (xJ v4), none, some (xD y6), none] [] w = b_X8_lay0_0 ev a0 n1 n2 n3 v4 y6 w := rfl
theorem e_X8_lay0_0 (a0 : Nat) (n1 : Int32) (n2 : Int32) (n3 : Int32) (v4 : Int64) (y6 : UInt64) (w : xW) : xev 113 0 [some (xA (some a0)), some (xI n1), some (xI n2), some (xI n3), some (xJ v4), none, some (xD y6), none] [] w = b_X8_lay0_0 xev a0 n1 n2 n3 v4 y6 w := (xev_go 113 19 0 [some (xA (some a0)), some (xI n1), some (xI n2), some (xI n3), some (xJ v4), none, some (xD y6), none] [] w).trans (r_X8_lay0_0 xev a0 n1 n2 n3 v4 y6 w)
def b_X8_canHold_0 (ev : Nat → xK) (n0 : Int32) (n1 : Int32) (w : xW) : Option xR := if n0 = Int32.ofInt 8 then if n1 = (11 : Int32) then some (some (xI (1 : Int32)), w) else if n1 = (4 : Int32) then some (some (xI (1 : Int32)), w) else some (some (xI (0 : Int32)), w) else if n0 = Int32.ofInt 9 then if n1 = (11 : Int32) then some (some (xI (1 : Int32)), w) else if n1 < (8 : Int32) then some (some (xI (1 : Int32)), w) else if n1 = (10 : Int32) then some (some (xI (1 : Int32)), w) else some (some (xI (0 : Int32)), w) else if n0 = Int32.ofInt 10 then if n1 = (11 : Int32) then some (some (xI (1 : Int32)), w) else if n1 = (8 : Int32) then some (some (xI (1 : Int32)), w) else if n1 = (9 : Int32) then some (some (xI (1 : Int32)), w) else some (some (xI (0 : Int32)), w) else if n0 = Int32.ofInt 11 then if n1 = (11 : Int32) then some (some (xI (1 : Int32)), w) else if n1 = (9 : Int32) then some (some (xI (1 : Int32)), w) else some (some (xI (0 : Int32)), w) else if n0 = Int32.ofInt 12 then if n1 = (11 : Int32) then some (some (xI (1 : Int32)), w) else if n1 = (10 : Int32) then some (some (xI (1 : Int32)), w) else some (some (xI (0 : Int32)), w) else if n1 < (8 : Int32) then (ev 97 0 [some (xI n1), some (xI n0)] [] w).bind fun p1 => xrI p1.1 fun i2 => if i2 = 0 then some (some (xI (0 : Int32)), p1.2) else some (some (xI (1 : Int32)), p1.2) else some (some (xI (0 : Int32)), w)
set_option maxRecDepth 100000 in
set_option maxHeartbeats 4000000 in
theorem r_X8_canHold_0 (ev : Nat → xK) (n0 : Int32) (n1 : Int32) (w : xW) : xstp (xca ev 114) 114 (xgo (xca ev 114) 114 (ev 114) 15) 0 [some (xI n0), some (xI n1)] [] w = b_X8_canHold_0 ev n0 n1 w := rfl
theorem e_X8_canHold_0 (n0 : Int32) (n1 : Int32) (w : xW) : xev 114 0 [some (xI n0), some (xI n1)] [] w = b_X8_canHold_0 xev n0 n1 w := (xev_go 114 15 0 [some (xI n0), some (xI n1)] [] w).trans (r_X8_canHold_0 xev n0 n1 w)
def b_X8_cellOf_0 (ev : Nat → xK) (a0 : Nat) (n1 : Int32) (n2 : Int32) (w : xW) : Option xR := (xobj w a0 7).bind fun _ => (ev 91 0 [some (xA (some a0)), some (xI n1)] [] w).bind fun p1 => xrI p1.1 fun i2 => if i2 = 0 then (xgA p1.2 a0 7 1).bind fun r3 => (xgA p1.2 a0 7 5).bind fun r4 => r4.bind fun o6 => (xaI p1.2 o6 n1).bind fun i5 => r3.bind fun o8 => (xaI p1.2 o8 i5).bind fun i7 => (ev 88 0 [some (xJ n2.toInt64), none, some (xJ (0 : Int64)), none, some (xJ ((i7 - (1 : Int32)).toInt64)), none] [] p1.2).bind fun p9 => xrI p9.1 fun i10 => if i10 = 0 then some (some (xI (4 : Int32)), p9.2) else some (some (xI (0 : Int32)), p9.2) else (xobj p1.2 a0 7).bind fun _ => (ev 91 0 [some (xA (some a0)), some (xI n1)] [] p1.2).bind fun p11 => xrI p11.1 fun i12 => some (some (xI i12), p11.2)
set_option maxRecDepth 100000 in
set_option maxHeartbeats 4000000 in
theorem r_X8_cellOf_0 (ev : Nat → xK) (a0 : Nat) (n1 : Int32) (n2 : Int32) (w : xW) : xstp (xca ev 115) 115 (xgo (xca ev 115) 115 (ev 115) 23) 0 [some (xA (some a0)), some (xI n1), some (xI n2)] [] w = b_X8_cellOf_0 ev a0 n1 n2 w := rfl
theorem e_X8_cellOf_0 (a0 : Nat) (n1 : Int32) (n2 : Int32) (w : xW) : xev 115 0 [some (xA (some a0)), some (xI n1), some (xI n2)] [] w = b_X8_cellOf_0 xev a0 n1 n2 w := (xev_go 115 23 0 [some (xA (some a0)), some (xI n1), some (xI n2)] [] w).trans (r_X8_cellOf_0 xev a0 n1 n2 w)
def b_X8_take0_0 (ev : Nat → xK) (a0 : Nat) (n1 : Int32) (n2 : Int32) (w : xW) : Option xR := (xobj w a0 7).bind fun _ => (ev 115 0 [some (xA (some a0)), some (xI n1), some (xI n2)] [] w).bind fun p1 => xrI p1.1 fun i2 => if i2 = 0 then (xgA p1.2 a0 7 5).bind fun r3 => r3.bind fun o5 => (xaI p1.2 o5 n1).bind fun i4 => (xgA p1.2 a0 7 2).bind fun r6 => r6.bind fun o8 => (xaI p1.2 o8 (((24 : Int32) * i4) + n2)).bind fun i7 => (xput p1.2 a0 7 7 (xI i7)).bind fun w9 => (xgA w9 a0 7 3).bind fun r10 => r10.bind fun o12 => (xaJ w9 o12 (((24 : Int32) * i4) + n2)).bind fun j11 => (xput w9 a0 7 8 (xJ j11)).bind fun w13 => (xgA w13 a0 7 4).bind fun r14 => r14.bind fun o16 => (xaD w13 o16 (((24 : Int32) * i4) + n2)).bind fun d15 => (xput w13 a0 7 9 (xD d15)).bind fun w17 => (xobj w17 a0 7).bind fun _ => (ev 106 0 [some (xA (some a0)), some (xI (8 : Int32)), some (xI i2)] [] w17).bind fun p18 => xrI p18.1 fun i19 => some (some (xI i19), p18.2) else (xobj p1.2 a0 7).bind fun _ => (ev 106 0 [some (xA (some a0)), some (xI (8 : Int32)), some (xI i2)] [] p1.2).bind fun p20 => xrI p20.1 fun i21 => some (some (xI i21), p20.2)
set_option maxRecDepth 100000 in
set_option maxHeartbeats 4000000 in
theorem r_X8_take0_0 (ev : Nat → xK) (a0 : Nat) (n1 : Int32) (n2 : Int32) (w : xW) : xstp (xca ev 116) 116 (xgo (xca ev 116) 116 (ev 116) 40) 0 [some (xA (some a0)), some (xI n1), some (xI n2), none, none] [] w = b_X8_take0_0 ev a0 n1 n2 w := rfl
theorem e_X8_take0_0 (a0 : Nat) (n1 : Int32) (n2 : Int32) (w : xW) : xev 116 0 [some (xA (some a0)), some (xI n1), some (xI n2), none, none] [] w = b_X8_take0_0 xev a0 n1 n2 w := (xev_go 116 40 0 [some (xA (some a0)), some (xI n1), some (xI n2), none, none] [] w).trans (r_X8_take0_0 xev a0 n1 n2 w)
def b_X8_putDown_0 (ev : Nat → xK) (a0 : Nat) (n1 : Int32) (n2 : Int32) (w : xW) : Option xR := (xobj w a0 7).bind fun _ => (ev 115 0 [some (xA (some a0)), some (xI n1), some (xI n2)] [] w).bind fun p1 => xrI p1.1 fun i2 => if i2 = 0 then (xgA p1.2 a0 7 0).bind fun r3 => (xgA p1.2 a0 7 5).bind fun r4 => r4.bind fun o6 => (xaI p1.2 o6 n1).bind fun i5 => r3.bind fun o8 => (xaI p1.2 o8 i5).bind fun i7 => (xgI p1.2 a0 7 7).bind fun i9 => (ev 114 0 [some (xI i7), some (xI i9)] [] p1.2).bind fun p10 => xrI p10.1 fun i11 => if i11 = 0 then (xobj p10.2 a0 7).bind fun _ => (ev 106 0 [some (xA (some a0)), some (xI (17 : Int32)), some (xI (5 : Int32))] [] p10.2).bind fun p12 => xrI p12.1 fun i13 => some (some (xI i13), p12.2) else if i2 = 0 then (xgA p10.2 a0 7 5).bind fun r14 => r14.bind fun o16 => (xaI p10.2 o16 n1).bind fun i15 => (xgA p10.2 a0 7 0).bind fun r17 => (xgA p10.2 a0 7 5).bind fun r18 => r18.bind fun o20 => (xaI p10.2 o20 n1).bind fun i19 => r17.bind fun o22 => (xaI p10.2 o22 i19).bind fun i21 => (xgI p10.2 a0 7 7).bind fun i23 => (xgJ p10.2 a0 7 8).bind fun j24 => (xgD p10.2 a0 7 9).bind fun d25 => (xobj p10.2 a0 7).bind fun _ => (ev 113 0 [some (xA (some a0)), some (xI (((24 : Int32) * i15) + n2)), some (xI i21), some (xI i23), some (xJ j24), none, some (xD d25), none] [] p10.2).bind fun p26 => xrV p26.1 ((xobj p26.2 a0 7).bind fun _ => (ev 106 0 [some (xA (some a0)), some (xI (17 : Int32)), some (xI i2)] [] p26.2).bind fun p27 => xrI p27.1 fun i28 => some (some (xI i28), p27.2)) else (xobj p10.2 a0 7).bind fun _ => (ev 106 0 [some (xA (some a0)), some (xI (17 : Int32)), some (xI i2)] [] p10.2).bind fun p29 => xrI p29.1 fun i30 => some (some (xI i30), p29.2) else if i2 = 0 then (xgA p1.2 a0 7 5).bind fun r31 => r31.bind fun o33 => (xaI p1.2 o33 n1).bind fun i32 => (xgA p1.2 a0 7 0).bind fun r34 => (xgA p1.2 a0 7 5).bind fun r35 => r35.bind fun o37 => (xaI p1.2 o37 n1).bind fun i36 => r34.bind fun o39 => (xaI p1.2 o39 i36).bind fun i38 => (xgI p1.2 a0 7 7).bind fun i40 => (xgJ p1.2 a0 7 8).bind fun j41 => (xgD p1.2 a0 7 9).bind fun d42 => (xobj p1.2 a0 7).bind fun _ => (ev 113 0 [some (xA (some a0)), some (xI (((24 : Int32) * i32) + n2)), some (xI i38), some (xI i40), some (xJ j41), none, some (xD d42), none] [] p1.2).bind fun p43 => xrV p43.1 ((xobj p43.2 a0 7).bind fun _ => (ev 106 0 [some (xA (some a0)), some (xI (17 : Int32)), some (xI i2)] [] p43.2).bind fun p44 => xrI p44.1 fun i45 => some (some (xI i45), p44.2)) else (xobj p1.2 a0 7).bind fun _ => (ev 106 0 [some (xA (some a0)), some (xI (17 : Int32)), some (xI i2)] [] p1.2).bind fun p46 => xrI p46.1 fun i47 => some (some (xI i47), p46.2)
set_option maxRecDepth 100000 in
set_option maxHeartbeats 4000000 in
theorem r_X8_putDown_0 (ev : Nat → xK) (a0 : Nat) (n1 : Int32) (n2 : Int32) (w : xW) : xstp (xca ev 117) 117 (xgo (xca ev 117) 117 (ev 117) 49) 0 [some (xA (some a0)), some (xI n1), some (xI n2), none] [] w = b_X8_putDown_0 ev a0 n1 n2 w := rfl
theorem e_X8_putDown_0 (a0 : Nat) (n1 : Int32) (n2 : Int32) (w : xW) : xev 117 0 [some (xA (some a0)), some (xI n1), some (xI n2), none] [] w = b_X8_putDown_0 xev a0 n1 n2 w := (xev_go 117 49 0 [some (xA (some a0)), some (xI n1), some (xI n2), none] [] w).trans (r_X8_putDown_0 xev a0 n1 n2 w)
def b_X8_take_0 (ev : Nat → xK) (a0 : Nat) (n1 : Int32) (n2 : Int32) (w : xW) : Option xR := (ev 89 0 [some (xI n1)] [] w).bind fun p1 => xrI p1.1 fun i2 => if i2 = 0 then some (some (xI (-1 : Int32)), p1.2) else (xobj p1.2 a0 7).bind fun _ => (ev 116 0 [some (xA (some a0)), some (xI n1), some (xI n2), none, none] [] p1.2).bind fun p3 => xrI p3.1 fun i4 => some (some (xI i4), p3.2)
set_option maxRecDepth 100000 in
set_option maxHeartbeats 4000000 in
theorem r_X8_take_0 (ev : Nat → xK) (a0 : Nat) (n1 : Int32) (n2 : Int32) (w : xW) : xstp (xca ev 118) 118 (xgo (xca ev 118) 118 (ev 118) 10) 0 [some (xA (some a0)), some (xI n1), some (xI n2)] [] w = b_X8_take_0 ev a0 n1 n2 w := rfl
theorem e_X8_take_0 (a0 : Nat) (n1 : Int32) (n2 : Int32) (w : xW) : xev 118 0 [some (xA (some a0)), some (xI n1), some (xI n2)] [] w = b_X8_take_0 xev a0 n1 n2 w := (xev_go 118 10 0 [some (xA (some a0)), some (xI n1), some (xI n2)] [] w).trans (r_X8_take_0 xev a0 n1 n2 w)
def b_X8_lay_0 (ev : Nat → xK) (a0 : Nat) (n1 : Int32) (n2 : Int32) (w : xW) : Option xR := (ev 89 0 [some (xI n1)] [] w).bind fun p1 => xrI p1.1 fun i2 => if i2 = 0 then some (some (xI (-1 : Int32)), p1.2) else (xobj p1.2 a0 7).bind fun _ => (ev 117 0 [some (xA (some a0)), some (xI n1), some (xI n2), none] [] p1.2).bind fun p3 => xrI p3.1 fun i4 => some (some (xI i4), p3.2)
set_option maxRecDepth 100000 in
set_option maxHeartbeats 4000000 in
theorem r_X8_lay_0 (ev : Nat → xK) (a0 : Nat) (n1 : Int32) (n2 : Int32) (w : xW) : xstp (xca ev 119) 119 (xgo (xca ev 119) 119 (ev 119) 10) 0 [some (xA (some a0)), some (xI n1), some (xI n2)] [] w = b_X8_lay_0 ev a0 n1 n2 w := rfl
theorem e_X8_lay_0 (a0 : Nat) (n1 : Int32) (n2 : Int32) (w : xW) : xev 119 0 [some (xA (some a0)), some (xI n1), some (xI n2)] [] w = b_X8_lay_0 xev a0 n1 n2 w := (xev_go 119 10 0 [some (xA (some a0)), some (xI n1), some (xI n2)] [] w).trans (r_X8_lay_0 xev a0 n1 n2 w)
def b_X8_hand_0 (ev : Nat → xK) (a0 : Nat) (n1 : Int32) (v2 : Int64) (w : xW) : Option xR := (ev 88 0 [some (xJ n1.toInt64), none, some (xJ (0 : Int64)), none, some (xJ (11 : Int64)), none] [] w).bind fun p1 => xrI p1.1 fun i2 => if i2 = 0 then some (some (xI (-2 : Int32)), p1.2) else if n1 = (10 : Int32) then (ev 88 0 [some (xJ v2), none, some (xJ (0 : Int64)), none, some (xJ (99 : Int64)), none] [] p1.2).bind fun p3 => xrI p3.1 fun i4 => if i4 = 0 then some (some (xI (-2 : Int32)), p3.2) else if n1 = (8 : Int32) then (xgI p3.2 a0 7 13).bind fun i5 => if i5 = (60 : Int32) then some (some (xI (-4 : Int32)), p3.2) else (xput p3.2 a0 7 7 (xI n1)).bind fun w6 => (xput w6 a0 7 8 (xJ (0 : Int64))).bind fun w7 => (xput w7 a0 7 9 (xD (0 : UInt64))).bind fun w8 => if n1 < (8 : Int32) then (xobj w8 a0 7).bind fun _ => (ev 96 0 [some (xA (some a0)), some (xI n1), some (xJ v2), none] [] w8).bind fun p9 => xrV p9.1 ((xgJ p9.2 a0 7 19).bind fun j10 => (xput p9.2 a0 7 8 (xJ j10)).bind fun w11 => (xgD w11 a0 7 20).bind fun d12 => (xput w11 a0 7 9 (xD d12)).bind fun w13 => some (some (xI (0 : Int32)), w13)) else if n1 < (10 : Int32) then if n1 = (9 : Int32) then (xobj w8 a0 7).bind fun _ => (ev 103 0 [some (xA (some a0)), some (xI v2.toInt32), some (xI (1 : Int32))] [] w8).bind fun p14 => xrI p14.1 fun i15 => (xput p14.2 a0 7 8 (xJ i15.toInt64)).bind fun w16 => some (some (xI (0 : Int32)), w16) else (xobj w8 a0 7).bind fun _ => (ev 103 0 [some (xA (some a0)), some (xI v2.toInt32), some (xI (0 : Int32))] [] w8).bind fun p17 => xrI p17.1 fun i18 => (xput p17.2 a0 7 8 (xJ i18.toInt64)).bind fun w19 => some (some (xI (0 : Int32)), w19) else if n1 = (10 : Int32) then (xput w8 a0 7 8 (xJ v2)).bind fun w20 => some (some (xI (0 : Int32)), w20) else some (some (xI (0 : Int32)), w8) else if n1 = (9 : Int32) then (xgI p3.2 a0 7 13).bind fun i21 => if i21 = (60 : Int32) then some (some (xI (-4 : Int32)), p3.2) else (xput p3.2 a0 7 7 (xI n1)).bind fun w22 => (xput w22 a0 7 8 (xJ (0 : Int64))).bind fun w23 => (xput w23 a0 7 9 (xD (0 : UInt64))).bind fun w24 => if n1 < (8 : Int32) then (xobj w24 a0 7).bind fun _ => (ev 96 0 [some (xA (some a0)), some (xI n1), some (xJ v2), none] [] w24).bind fun p25 => xrV p25.1 ((xgJ p25.2 a0 7 19).bind fun j26 => (xput p25.2 a0 7 8 (xJ j26)).bind fun w27 => (xgD w27 a0 7 20).bind fun d28 => (xput w27 a0 7 9 (xD d28)).bind fun w29 => some (some (xI (0 : Int32)), w29)) else if n1 < (10 : Int32) then if n1 = (9 : Int32) then (xobj w24 a0 7).bind fun _ => (ev 103 0 [some (xA (some a0)), some (xI v2.toInt32), some (xI (1 : Int32))] [] w24).bind fun p30 => xrI p30.1 fun i31 => (xput p30.2 a0 7 8 (xJ i31.toInt64)).bind fun w32 => some (some (xI (0 : Int32)), w32) else (xobj w24 a0 7).bind fun _ => (ev 103 0 [some (xA (some a0)), some (xI v2.toInt32), some (xI (0 : Int32))] [] w24).bind fun p33 => xrI p33.1 fun i34 => (xput p33.2 a0 7 8 (xJ i34.toInt64)).bind fun w35 => some (some (xI (0 : Int32)), w35) else if n1 = (10 : Int32) then (xput w24 a0 7 8 (xJ v2)).bind fun w36 => some (some (xI (0 : Int32)), w36) else some (some (xI (0 : Int32)), w24) else (xput p3.2 a0 7 7 (xI n1)).bind fun w37 => (xput w37 a0 7 8 (xJ (0 : Int64))).bind fun w38 => (xput w38 a0 7 9 (xD (0 : UInt64))).bind fun w39 => if n1 < (8 : Int32) then (xobj w39 a0 7).bind fun _ => (ev 96 0 [some (xA (some a0)), some (xI n1), some (xJ v2), none] [] w39).bind fun p40 => xrV p40.1 ((xgJ p40.2 a0 7 19).bind fun j41 => (xput p40.2 a0 7 8 (xJ j41)).bind fun w42 => (xgD w42 a0 7 20).bind fun d43 => (xput w42 a0 7 9 (xD d43)).bind fun w44 => some (some (xI (0 : Int32)), w44)) else if n1 < (10 : Int32) then if n1 = (9 : Int32) then (xobj w39 a0 7).bind fun _ => (ev 103 0 [some (xA (some a0)), some (xI v2.toInt32), some (xI (1 : Int32))] [] w39).bind fun p45 => xrI p45.1 fun i46 => (xput p45.2 a0 7 8 (xJ i46.toInt64)).bind fun w47 => some (some (xI (0 : Int32)), w47) else (xobj w39 a0 7).bind fun _ => (ev 103 0 [some (xA (some a0)), some (xI v2.toInt32), some (xI (0 : Int32))] [] w39).bind fun p48 => xrI p48.1 fun i49 => (xput p48.2 a0 7 8 (xJ i49.toInt64)).bind fun w50 => some (some (xI (0 : Int32)), w50) else if n1 = (10 : Int32) then (xput w39 a0 7 8 (xJ v2)).bind fun w51 => some (some (xI (0 : Int32)), w51) else some (some (xI (0 : Int32)), w39) else if n1 = (8 : Int32) then (xgI p1.2 a0 7 13).bind fun i52 => if i52 = (60 : Int32) then some (some (xI (-4 : Int32)), p1.2) else (xput p1.2 a0 7 7 (xI n1)).bind fun w53 => (xput w53 a0 7 8 (xJ (0 : Int64))).bind fun w54 => (xput w54 a0 7 9 (xD (0 : UInt64))).bind fun w55 => if n1 < (8 : Int32) then (xobj w55 a0 7).bind fun _ => (ev 96 0 [some (xA (some a0)), some (xI n1), some (xJ v2), none] [] w55).bind fun p56 => xrV p56.1 ((xgJ p56.2 a0 7 19).bind fun j57 => (xput p56.2 a0 7 8 (xJ j57)).bind fun w58 => (xgD w58 a0 7 20).bind fun d59 => (xput w58 a0 7 9 (xD d59)).bind fun w60 => some (some (xI (0 : Int32)), w60)) else if n1 < (10 : Int32) then if n1 = (9 : Int32) then (xobj w55 a0 7).bind fun _ => (ev 103 0 [some (xA (some a0)), some (xI v2.toInt32), some (xI (1 : Int32))] [] w55).bind fun p61 => xrI p61.1 fun i62 => (xput p61.2 a0 7 8 (xJ i62.toInt64)).bind fun w63 => some (some (xI (0 : Int32)), w63) else (xobj w55 a0 7).bind fun _ => (ev 103 0 [some (xA (some a0)), some (xI v2.toInt32), some (xI (0 : Int32))] [] w55).bind fun p64 => xrI p64.1 fun i65 => (xput p64.2 a0 7 8 (xJ i65.toInt64)).bind fun w66 => some (some (xI (0 : Int32)), w66) else if n1 = (10 : Int32) then (xput w55 a0 7 8 (xJ v2)).bind fun w67 => some (some (xI (0 : Int32)), w67) else some (some (xI (0 : Int32)), w55) else if n1 = (9 : Int32) then (xgI p1.2 a0 7 13).bind fun i68 => if i68 = (60 : Int32) then some (some (xI (-4 : Int32)), p1.2) else (xput p1.2 a0 7 7 (xI n1)).bind fun w69 => (xput w69 a0 7 8 (xJ (0 : Int64))).bind fun w70 => (xput w70 a0 7 9 (xD (0 : UInt64))).bind fun w71 => if n1 < (8 : Int32) then (xobj w71 a0 7).bind fun _ => (ev 96 0 [some (xA (some a0)), some (xI n1), some (xJ v2), none] [] w71).bind fun p72 => xrV p72.1 ((xgJ p72.2 a0 7 19).bind fun j73 => (xput p72.2 a0 7 8 (xJ j73)).bind fun w74 => (xgD w74 a0 7 20).bind fun d75 => (xput w74 a0 7 9 (xD d75)).bind fun w76 => some (some (xI (0 : Int32)), w76)) else if n1 < (10 : Int32) then if n1 = (9 : Int32) then (xobj w71 a0 7).bind fun _ => (ev 103 0 [some (xA (some a0)), some (xI v2.toInt32), some (xI (1 : Int32))] [] w71).bind fun p77 => xrI p77.1 fun i78 => (xput p77.2 a0 7 8 (xJ i78.toInt64)).bind fun w79 => some (some (xI (0 : Int32)), w79) else (xobj w71 a0 7).bind fun _ => (ev 103 0 [some (xA (some a0)), some (xI v2.toInt32), some (xI (0 : Int32))] [] w71).bind fun p80 => xrI p80.1 fun i81 => (xput p80.2 a0 7 8 (xJ i81.toInt64)).bind fun w82 => some (some (xI (0 : Int32)), w82) else if n1 = (10 : Int32) then (xput w71 a0 7 8 (xJ v2)).bind fun w83 => some (some (xI (0 : Int32)), w83) else some (some (xI (0 : Int32)), w71) else (xput p1.2 a0 7 7 (xI n1)).bind fun w84 => (xput w84 a0 7 8 (xJ (0 : Int64))).bind fun w85 => (xput w85 a0 7 9 (xD (0 : UInt64))).bind fun w86 => if n1 < (8 : Int32) then (xobj w86 a0 7).bind fun _ => (ev 96 0 [some (xA (some a0)), some (xI n1), some (xJ v2), none] [] w86).bind fun p87 => xrV p87.1 ((xgJ p87.2 a0 7 19).bind fun j88 => (xput p87.2 a0 7 8 (xJ j88)).bind fun w89 => (xgD w89 a0 7 20).bind fun d90 => (xput w89 a0 7 9 (xD d90)).bind fun w91 => some (some (xI (0 : Int32)), w91)) else if n1 < (10 : Int32) then if n1 = (9 : Int32) then (xobj w86 a0 7).bind fun _ => (ev 103 0 [some (xA (some a0)), some (xI v2.toInt32), some (xI (1 : Int32))] [] w86).bind fun p92 => xrI p92.1 fun i93 => (xput p92.2 a0 7 8 (xJ i93.toInt64)).bind fun w94 => some (some (xI (0 : Int32)), w94) else (xobj w86 a0 7).bind fun _ => (ev 103 0 [some (xA (some a0)), some (xI v2.toInt32), some (xI (0 : Int32))] [] w86).bind fun p95 => xrI p95.1 fun i96 => (xput p95.2 a0 7 8 (xJ i96.toInt64)).bind fun w97 => some (some (xI (0 : Int32)), w97) else if n1 = (10 : Int32) then (xput w86 a0 7 8 (xJ v2)).bind fun w98 => some (some (xI (0 : Int32)), w98) else some (some (xI (0 : Int32)), w86)
set_option maxRecDepth 100000 in
set_option maxHeartbeats 4000000 in
theorem r_X8_hand_0 (ev : Nat → xK) (a0 : Nat) (n1 : Int32) (v2 : Int64) (w : xW) : xstp (xca ev 120) 120 (xgo (xca ev 120) 120 (ev 120) 55) 0 [some (xA (some a0)), some (xI n1), some (xJ v2), none] [] w = b_X8_hand_0 ev a0 n1 v2 w := rfl
theorem e_X8_hand_0 (a0 : Nat) (n1 : Int32) (v2 : Int64) (w : xW) : xev 120 0 [some (xA (some a0)), some (xI n1), some (xJ v2), none] [] w = b_X8_hand_0 xev a0 n1 v2 w := (xev_go 120 55 0 [some (xA (some a0)), some (xI n1), some (xJ v2), none] [] w).trans (r_X8_hand_0 xev a0 n1 v2 w)
def b_X8_hasStone_0 (ev : Nat → xK) (a0 : Nat) (w : xW) : Option xR := (xgI w a0 7 7).bind fun i1 => if i1 = (8 : Int32) then some (some (xI (1 : Int32)), w) else (xgI w a0 7 7).bind fun i2 => if i2 = (9 : Int32) then some (some (xI (1 : Int32)), w) else some (some (xI (0 : Int32)), w)
set_option maxRecDepth 100000 in
set_option maxHeartbeats 4000000 in
theorem r_X8_hasStone_0 (ev : Nat → xK) (a0 : Nat) (w : xW) : xstp (xca ev 121) 121 (xgo (xca ev 121) 121 (ev 121) 12) 0 [some (xA (some a0))] [] w = b_X8_hasStone_0 ev a0 w := rfl
theorem e_X8_hasStone_0 (a0 : Nat) (w : xW) : xev 121 0 [some (xA (some a0))] [] w = b_X8_hasStone_0 xev a0 w := (xev_go 121 12 0 [some (xA (some a0))] [] w).trans (r_X8_hasStone_0 xev a0 w)
def b_X8_inHand_0 (ev : Nat → xK) (a0 : Nat) (n1 : Int32) (w : xW) : Option xR := if n1 = Int32.ofInt 0 then (xgI w a0 7 7).bind fun i1 => some (some (xJ i1.toInt64), w) else if n1 = Int32.ofInt 1 then (xobj w a0 7).bind fun _ => (ev 121 0 [some (xA (some a0))] [] w).bind fun p2 => xrI p2.1 fun i3 => if i3 = 0 then (xgI p2.2 a0 7 7).bind fun i4 => if i4 = (11 : Int32) then some (some (xJ (0 : Int64)), p2.2) else (xgI p2.2 a0 7 7).bind fun i5 => (xgJ p2.2 a0 7 8).bind fun j6 => (xgD p2.2 a0 7 9).bind fun d7 => (ev 101 0 [some (xI i5), some (xJ j6), none, some (xD d7), none] [] p2.2).bind fun p8 => xrJ p8.1 fun j9 => some (some (xJ j9), p8.2) else (xgA p2.2 a0 7 11).bind fun r10 => (xgJ p2.2 a0 7 8).bind fun j11 => r10.bind fun o13 => (xaI p2.2 o13 j11.toInt32).bind fun i12 => some (some (xJ i12.toInt64), p2.2) else if n1 = Int32.ofInt 2 then (xobj w a0 7).bind fun _ => (ev 121 0 [some (xA (some a0))] [] w).bind fun p14 => xrI p14.1 fun i15 => if i15 = 0 then some (some (xJ (0 : Int64)), p14.2) else (xgJ p14.2 a0 7 8).bind fun j16 => some (some (xJ j16), p14.2) else some (some (xJ (-2 : Int64)), w)
set_option maxRecDepth 100000 in
set_option maxHeartbeats 4000000 in
theorem r_X8_inHand_0 (ev : Nat → xK) (a0 : Nat) (n1 : Int32) (w : xW) : xstp (xca ev 122) 122 (xgo (xca ev 122) 122 (ev 122) 18) 0 [some (xA (some a0)), some (xI n1)] [] w = b_X8_inHand_0 ev a0 n1 w := rfl
theorem e_X8_inHand_0 (a0 : Nat) (n1 : Int32) (w : xW) : xev 122 0 [some (xA (some a0)), some (xI n1)] [] w = b_X8_inHand_0 xev a0 n1 w := (xev_go 122 18 0 [some (xA (some a0)), some (xI n1)] [] w).trans (r_X8_inHand_0 xev a0 n1 w)
def b_X8_chip_0 (ev : Nat → xK) (a0 : Nat) (n1 : Int32) (w : xW) : Option xR := (xobj w a0 7).bind fun _ => (ev 121 0 [some (xA (some a0))] [] w).bind fun p1 => xrI p1.1 fun i2 => if i2 = 0 then some (some (xI (-3 : Int32)), p1.2) else (xgA p1.2 a0 7 11).bind fun r3 => (xgJ p1.2 a0 7 8).bind fun j4 => r3.bind fun o6 => (xaI p1.2 o6 j4.toInt32).bind fun i5 => r3.bind fun o8 => (xsI p1.2 o8 j4.toInt32 (i5 + n1)).bind fun w7 => (xgA w7 a0 7 11).bind fun r9 => (xgJ w7 a0 7 8).bind fun j10 => r9.bind fun o12 => (xaI w7 o12 j10.toInt32).bind fun i11 => some (some (xI i11), w7)
set_option maxRecDepth 100000 in
set_option maxHeartbeats 4000000 in
theorem r_X8_chip_0 (ev : Nat → xK) (a0 : Nat) (n1 : Int32) (w : xW) : xstp (xca ev 123) 123 (xgo (xca ev 123) 123 (ev 123) 21) 0 [some (xA (some a0)), some (xI n1)] [] w = b_X8_chip_0 ev a0 n1 w := rfl
theorem e_X8_chip_0 (a0 : Nat) (n1 : Int32) (w : xW) : xev 123 0 [some (xA (some a0)), some (xI n1)] [] w = b_X8_chip_0 xev a0 n1 w := (xev_go 123 21 0 [some (xA (some a0)), some (xI n1)] [] w).trans (r_X8_chip_0 xev a0 n1 w)
def b_X8_cut_0 (ev : Nat → xK) (a0 : Nat) (n1 : Int32) (n2 : Int32) (n3 : Int32) (w : xW) : Option xR := (ev 89 0 [some (xI n1)] [] w).bind fun p1 => xrI p1.1 fun i2 => if i2 = 0 then some (some (xI (-1 : Int32)), p1.2) else (xobj p1.2 a0 7).bind fun _ => (ev 91 0 [some (xA (some a0)), some (xI n1)] [] p1.2).bind fun p3 => xrI p3.1 fun i4 => if i4 = 0 then (xgA p3.2 a0 7 5).bind fun r5 => r5.bind fun o7 => (xaI p3.2 o7 n1).bind fun i6 => if n3 < (1 : Int32) then some (some (xI (4 : Int32)), p3.2) else (xgA p3.2 a0 7 1).bind fun r8 => r8.bind fun o10 => (xaI p3.2 o10 i6).bind fun i9 => (ev 88 0 [some (xJ n2.toInt64), none, some (xJ (0 : Int64)), none, some (xJ ((i9 - (1 : Int32)).toInt64)), none] [] p3.2).bind fun p11 => xrI p11.1 fun i12 => if i12 = 0 then some (some (xI (4 : Int32)), p11.2) else (xgA p11.2 a0 7 1).bind fun r13 => r13.bind fun o15 => (xaI p11.2 o15 i6).bind fun i14 => if i14 - n2 < n3 then some (some (xI (4 : Int32)), p11.2) else (xobj p11.2 a0 7).bind fun _ => (ev 92 0 [some (xA (some a0)), some (xI (-6 : Int32)), none, none, none, none] [] p11.2).bind fun p16 => xrI p16.1 fun i17 => (xobj p16.2 a0 7).bind fun _ => (ev 92 0 [some (xA (some a0)), some (xI i17), none, none, none, none] [] p16.2).bind fun p18 => xrI p18.1 fun i19 => (xgA p18.2 a0 7 0).bind fun r20 => r20.bind fun o22 => (xaI p18.2 o22 i6).bind fun i21 => (xobj p18.2 a0 7).bind fun _ => (ev 93 0 [some (xA (some a0)), some (xI i17), some (xI i21), some (xI n3), none] [] p18.2).bind fun p23 => xrV p23.1 ((xgA p23.2 a0 7 0).bind fun r24 => r24.bind fun o26 => (xaI p23.2 o26 i6).bind fun i25 => (xgA p23.2 a0 7 1).bind fun r27 => r27.bind fun o29 => (xaI p23.2 o29 i6).bind fun i28 => (xobj p23.2 a0 7).bind fun _ => (ev 93 0 [some (xA (some a0)), some (xI i19), some (xI i25), some (xI (i28 - n3)), none] [] p23.2).bind fun p30 => xrV p30.1 (ev 124 125 [some (xA (some a0)), some (xI n1), some (xI n2), some (xI n3), some (xI i6), some (xI i17), some (xI i19), some (xI (0 : Int32)), none] [] p30.2)) else (xobj p3.2 a0 7).bind fun _ => (ev 91 0 [some (xA (some a0)), some (xI n1)] [] p3.2).bind fun p31 => xrI p31.1 fun i32 => some (some (xI i32), p31.2)
set_option maxRecDepth 100000 in
set_option maxHeartbeats 4000000 in
theorem r_X8_cut_0 (ev : Nat → xK) (a0 : Nat) (n1 : Int32) (n2 : Int32) (n3 : Int32) (w : xW) : xstp (xca ev 124) 124 (xgo (xca ev 124) 124 (ev 124) 68) 0 [some (xA (some a0)), some (xI n1), some (xI n2), some (xI n3), none, none, none, none, none] [] w = b_X8_cut_0 ev a0 n1 n2 n3 w := rfl
theorem e_X8_cut_0 (a0 : Nat) (n1 : Int32) (n2 : Int32) (n3 : Int32) (w : xW) : xev 124 0 [some (xA (some a0)), some (xI n1), some (xI n2), some (xI n3), none, none, none, none, none] [] w = b_X8_cut_0 xev a0 n1 n2 n3 w := (xev_go 124 68 0 [some (xA (some a0)), some (xI n1), some (xI n2), some (xI n3), none, none, none, none, none] [] w).trans (r_X8_cut_0 xev a0 n1 n2 n3 w)
def b_X8_cut_125 (ev : Nat → xK) (a0 : Nat) (n1 : Int32) (n2 : Int32) (n3 : Int32) (n4 : Int32) (n5 : Int32) (n6 : Int32) (n7 : Int32) (w : xW) : Option xR := (xgA w a0 7 1).bind fun r1 => r1.bind fun o3 => (xaI w o3 n4).bind fun i2 => if n7 < i2 then if n7 < n2 then (xobj w a0 7).bind fun _ => (ev 95 0 [some (xA (some a0)), some (xI (((24 : Int32) * n4) + n7)), some (xI (((24 : Int32) * n6) + n7))] [] w).bind fun p4 => xrV p4.1 (ev 124 125 [some (xA (some a0)), some (xI n1), some (xI n2), some (xI n3), some (xI n4), some (xI n5), some (xI n6), some (xI (n7 + (1 : Int32))), none] [] p4.2) else if n7 < n2 + n3 then (xobj w a0 7).bind fun _ => (ev 95 0 [some (xA (some a0)), some (xI (((24 : Int32) * n4) + n7)), some (xI ((((24 : Int32) * n5) + n7) - n2))] [] w).bind fun p5 => xrV p5.1 (ev 124 125 [some (xA (some a0)), some (xI n1), some (xI n2), some (xI n3), some (xI n4), some (xI n5), some (xI n6), some (xI (n7 + (1 : Int32))), none] [] p5.2) else (xobj w a0 7).bind fun _ => (ev 95 0 [some (xA (some a0)), some (xI (((24 : Int32) * n4) + n7)), some (xI ((((24 : Int32) * n6) + n7) - n3))] [] w).bind fun p6 => xrV p6.1 (ev 124 125 [some (xA (some a0)), some (xI n1), some (xI n2), some (xI n3), some (xI n4), some (xI n5), some (xI n6), some (xI (n7 + (1 : Int32))), none] [] p6.2) else (xput w a0 7 6 (xI n5)).bind fun w7 => (xgA w7 a0 7 5).bind fun r8 => r8.bind fun o10 => (xsI w7 o10 n1 n6).bind fun w9 => some (some (xI (0 : Int32)), w9)
set_option maxRecDepth 100000 in
set_option maxHeartbeats 4000000 in
theorem r_X8_cut_125 (ev : Nat → xK) (a0 : Nat) (n1 : Int32) (n2 : Int32) (n3 : Int32) (n4 : Int32) (n5 : Int32) (n6 : Int32) (n7 : Int32) (w : xW) : xstp (xca ev 124) 124 (xgo (xca ev 124) 124 (ev 124) 35) 125 [some (xA (some a0)), some (xI n1), some (xI n2), some (xI n3), some (xI n4), some (xI n5), some (xI n6), some (xI n7), none] [] w = b_X8_cut_125 ev a0 n1 n2 n3 n4 n5 n6 n7 w := rfl
theorem e_X8_cut_125 (a0 : Nat) (n1 : Int32) (n2 : Int32) (n3 : Int32) (n4 : Int32) (n5 : Int32) (n6 : Int32) (n7 : Int32) (w : xW) : xev 124 125 [some (xA (some a0)), some (xI n1), some (xI n2), some (xI n3), some (xI n4), some (xI n5), some (xI n6), some (xI n7), none] [] w = b_X8_cut_125 xev a0 n1 n2 n3 n4 n5 n6 n7 w := (xev_go 124 35 125 [some (xA (some a0)), some (xI n1), some (xI n2), some (xI n3), some (xI n4), some (xI n5), some (xI n6), some (xI n7), none] [] w).trans (r_X8_cut_125 xev a0 n1 n2 n3 n4 n5 n6 n7 w)
def b_X8_unfit_0 (ev : Nat → xK) (a0 : Nat) (n1 : Int32) (n2 : Int32) (w : xW) : Option xR := ev 125 2 [some (xA (some a0)), some (xI n1), some (xI n2), some (xI (0 : Int32))] [] w
set_option maxRecDepth 100000 in
set_option maxHeartbeats 4000000 in
theorem r_X8_unfit_0 (ev : Nat → xK) (a0 : Nat) (n1 : Int32) (n2 : Int32) (w : xW) : xstp (xca ev 125) 125 (xgo (xca ev 125) 125 (ev 125) 4) 0 [some (xA (some a0)), some (xI n1), some (xI n2), none] [] w = b_X8_unfit_0 ev a0 n1 n2 w := rfl
theorem e_X8_unfit_0 (a0 : Nat) (n1 : Int32) (n2 : Int32) (w : xW) : xev 125 0 [some (xA (some a0)), some (xI n1), some (xI n2), none] [] w = b_X8_unfit_0 xev a0 n1 n2 w := (xev_go 125 4 0 [some (xA (some a0)), some (xI n1), some (xI n2), none] [] w).trans (r_X8_unfit_0 xev a0 n1 n2 w)
def b_X8_unfit_2 (ev : Nat → xK) (a0 : Nat) (n1 : Int32) (n2 : Int32) (n3 : Int32) (w : xW) : Option xR := (xgA w a0 7 1).bind fun r1 => r1.bind fun o3 => (xaI w o3 n1).bind fun i2 => if n3 < i2 then (xgA w a0 7 2).bind fun r4 => r4.bind fun o6 => (xaI w o6 (((24 : Int32) * n1) + n3)).bind fun i5 => (ev 114 0 [some (xI n2), some (xI i5)] [] w).bind fun p7 => xrI p7.1 fun i8 => if i8 = 0 then some (some (xI n3), p7.2) else ev 125 2 [some (xA (some a0)), some (xI n1), some (xI n2), some (xI (n3 + (1 : Int32)))] [] p7.2 else some (some (xI n3), w)
set_option maxRecDepth 100000 in
set_option maxHeartbeats 4000000 in
theorem r_X8_unfit_2 (ev : Nat → xK) (a0 : Nat) (n1 : Int32) (n2 : Int32) (n3 : Int32) (w : xW) : xstp (xca ev 125) 125 (xgo (xca ev 125) 125 (ev 125) 21) 2 [some (xA (some a0)), some (xI n1), some (xI n2), some (xI n3)] [] w = b_X8_unfit_2 ev a0 n1 n2 n3 w := rfl
theorem e_X8_unfit_2 (a0 : Nat) (n1 : Int32) (n2 : Int32) (n3 : Int32) (w : xW) : xev 125 2 [some (xA (some a0)), some (xI n1), some (xI n2), some (xI n3)] [] w = b_X8_unfit_2 xev a0 n1 n2 n3 w := (xev_go 125 21 2 [some (xA (some a0)), some (xI n1), some (xI n2), some (xI n3)] [] w).trans (r_X8_unfit_2 xev a0 n1 n2 n3 w)
def b_X8_layCell_0 (ev : Nat → xK) (a0 : Nat) (n1 : Int32) (n2 : Int32) (n3 : Int32) (n4 : Int32) (w : xW) : Option xR := (xgA w a0 7 0).bind fun r1 => r1.bind fun o3 => (xaI w o3 n3).bind fun i2 => (xgA w a0 7 2).bind fun r4 => r4.bind fun o6 => (xaI w o6 (((24 : Int32) * n1) + n2)).bind fun i5 => (xgA w a0 7 3).bind fun r7 => r7.bind fun o9 => (xaJ w o9 (((24 : Int32) * n1) + n2)).bind fun j8 => (xgA w a0 7 4).bind fun r10 => r10.bind fun o12 => (xaD w o12 (((24 : Int32) * n1) + n2)).bind fun d11 => (xobj w a0 7).bind fun _ => (ev 113 0 [some (xA (some a0)), some (xI (((24 : Int32) * n3) + n4)), some (xI i2), some (xI i5), some (xJ j8), none, some (xD d11), none] [] w).bind fun p13 => xrV p13.1 (some (none, p13.2))
set_option maxRecDepth 100000 in
set_option maxHeartbeats 4000000 in
theorem r_X8_layCell_0 (ev : Nat → xK) (a0 : Nat) (n1 : Int32) (n2 : Int32) (n3 : Int32) (n4 : Int32) (w : xW) : xstp (xca ev 126) 126 (xgo (xca ev 126) 126 (ev 126) 31) 0 [some (xA (some a0)), some (xI n1), some (xI n2), some (xI n3), some (xI n4), none] [] w = b_X8_layCell_0 ev a0 n1 n2 n3 n4 w := rfl
theorem e_X8_layCell_0 (a0 : Nat) (n1 : Int32) (n2 : Int32) (n3 : Int32) (n4 : Int32) (w : xW) : xev 126 0 [some (xA (some a0)), some (xI n1), some (xI n2), some (xI n3), some (xI n4), none] [] w = b_X8_layCell_0 xev a0 n1 n2 n3 n4 w := (xev_go 126 31 0 [some (xA (some a0)), some (xI n1), some (xI n2), some (xI n3), some (xI n4), none] [] w).trans (r_X8_layCell_0 xev a0 n1 n2 n3 n4 w)
def b_X8_paste_0 (ev : Nat → xK) (a0 : Nat) (n1 : Int32) (n2 : Int32) (w : xW) : Option xR := (ev 89 0 [some (xI n1)] [] w).bind fun p1 => xrI p1.1 fun i2 => if i2 = 0 then some (some (xI (-1 : Int32)), p1.2) else (xgI p1.2 a0 7 6).bind fun i3 => if i3 < 0 then some (some (xI (-3 : Int32)), p1.2) else (xobj p1.2 a0 7).bind fun _ => (ev 90 0 [some (xA (some a0)), some (xI n1)] [] p1.2).bind fun p4 => xrI p4.1 fun i5 => if i5 = 0 then (xobj p4.2 a0 7).bind fun _ => (ev 91 0 [some (xA (some a0)), some (xI n1)] [] p4.2).bind fun p6 => xrI p6.1 fun i7 => if i7 = 0 then (xgA p6.2 a0 7 5).bind fun r8 => r8.bind fun o10 => (xaI p6.2 o10 n1).bind fun i9 => (xgA p6.2 a0 7 1).bind fun r11 => r11.bind fun o13 => (xaI p6.2 o13 i9).bind fun i12 => (ev 88 0 [some (xJ n2.toInt64), none, some (xJ (0 : Int64)), none, some (xJ i12.toInt64), none] [] p6.2).bind fun p14 => xrI p14.1 fun i15 => if i15 = 0 then some (some (xI (4 : Int32)), p14.2) else (xgI p14.2 a0 7 6).bind fun i16 => (xgA p14.2 a0 7 0).bind fun r17 => r17.bind fun o19 => (xaI p14.2 o19 i9).bind fun i18 => (xobj p14.2 a0 7).bind fun _ => (ev 125 0 [some (xA (some a0)), some (xI i16), some (xI i18), none] [] p14.2).bind fun p20 => xrI p20.1 fun i21 => (xgA p20.2 a0 7 1).bind fun r22 => (xgI p20.2 a0 7 6).bind fun i23 => r22.bind fun o25 => (xaI p20.2 o25 i23).bind fun i24 => if i21 < i24 then (xput p20.2 a0 7 10 (xJ i21.toInt64)).bind fun w26 => some (some (xI (5 : Int32)), w26) else (xobj p20.2 a0 7).bind fun _ => (ev 92 0 [some (xA (some a0)), some (xI (-6 : Int32)), none, none, none, none] [] p20.2).bind fun p27 => xrI p27.1 fun i28 => (xgA p27.2 a0 7 0).bind fun r29 => r29.bind fun o31 => (xaI p27.2 o31 i9).bind fun i30 => (xgA p27.2 a0 7 1).bind fun r32 => r32.bind fun o34 => (xaI p27.2 o34 i9).bind fun i33 => (xgA p27.2 a0 7 1).bind fun r35 => (xgI p27.2 a0 7 6).bind fun i36 => r35.bind fun o38 => (xaI p27.2 o38 i36).bind fun i37 => (xobj p27.2 a0 7).bind fun _ => (ev 93 0 [some (xA (some a0)), some (xI i28), some (xI i30), some (xI (i33 + i37)), none] [] p27.2).bind fun p39 => xrV p39.1 (ev 127 173 [some (xA (some a0)), some (xI n1), some (xI n2), some (xI i9), none, some (xI i28), some (xI (0 : Int32))] [] p39.2) else (xobj p6.2 a0 7).bind fun _ => (ev 91 0 [some (xA (some a0)), some (xI n1)] [] p6.2).bind fun p40 => xrI p40.1 fun i41 => some (some (xI i41), p40.2) else (xgA p4.2 a0 7 1).bind fun r42 => (xgA p4.2 a0 7 5).bind fun r43 => r43.bind fun o45 => (xaI p4.2 o45 n1).bind fun i44 => r42.bind fun o47 => (xaI p4.2 o47 i44).bind fun i46 => (xgA p4.2 a0 7 1).bind fun r48 => (xgI p4.2 a0 7 6).bind fun i49 => r48.bind fun o51 => (xaI p4.2 o51 i49).bind fun i50 => if (24 : Int32) < i46 + i50 then some (some (xI (-4 : Int32)), p4.2) else (xobj p4.2 a0 7).bind fun _ => (ev 91 0 [some (xA (some a0)), some (xI n1)] [] p4.2).bind fun p52 => xrI p52.1 fun i53 => if i53 = 0 then (xgA p52.2 a0 7 5).bind fun r54 => r54.bind fun o56 => (xaI p52.2 o56 n1).bind fun i55 => (xgA p52.2 a0 7 1).bind fun r57 => r57.bind fun o59 => (xaI p52.2 o59 i55).bind fun i58 => (ev 88 0 [some (xJ n2.toInt64), none, some (xJ (0 : Int64)), none, some (xJ i58.toInt64), none] [] p52.2).bind fun p60 => xrI p60.1 fun i61 => if i61 = 0 then some (some (xI (4 : Int32)), p60.2) else (xgI p60.2 a0 7 6).bind fun i62 => (xgA p60.2 a0 7 0).bind fun r63 => r63.bind fun o65 => (xaI p60.2 o65 i55).bind fun i64 => (xobj p60.2 a0 7).bind fun _ => (ev 125 0 [some (xA (some a0)), some (xI i62), some (xI i64), none] [] p60.2).bind fun p66 => xrI p66.1 fun i67 => (xgA p66.2 a0 7 1).bind fun r68 => (xgI p66.2 a0 7 6).bind fun i69 => r68.bind fun o71 => (xaI p66.2 o71 i69).bind fun i70 => if i67 < i70 then (xput p66.2 a0 7 10 (xJ i67.toInt64)).bind fun w72 => some (some (xI (5 : Int32)), w72) else (xobj p66.2 a0 7).bind fun _ => (ev 92 0 [some (xA (some a0)), some (xI (-6 : Int32)), none, none, none, none] [] p66.2).bind fun p73 => xrI p73.1 fun i74 => (xgA p73.2 a0 7 0).bind fun r75 => r75.bind fun o77 => (xaI p73.2 o77 i55).bind fun i76 => (xgA p73.2 a0 7 1).bind fun r78 => r78.bind fun o80 => (xaI p73.2 o80 i55).bind fun i79 => (xgA p73.2 a0 7 1).bind fun r81 => (xgI p73.2 a0 7 6).bind fun i82 => r81.bind fun o84 => (xaI p73.2 o84 i82).bind fun i83 => (xobj p73.2 a0 7).bind fun _ => (ev 93 0 [some (xA (some a0)), some (xI i74), some (xI i76), some (xI (i79 + i83)), none] [] p73.2).bind fun p85 => xrV p85.1 (ev 127 173 [some (xA (some a0)), some (xI n1), some (xI n2), some (xI i55), none, some (xI i74), some (xI (0 : Int32))] [] p85.2) else (xobj p52.2 a0 7).bind fun _ => (ev 91 0 [some (xA (some a0)), some (xI n1)] [] p52.2).bind fun p86 => xrI p86.1 fun i87 => some (some (xI i87), p86.2)
set_option maxRecDepth 100000 in
set_option maxHeartbeats 4000000 in
theorem r_X8_paste_0 (ev : Nat → xK) (a0 : Nat) (n1 : Int32) (n2 : Int32) (w : xW) : xstp (xca ev 127) 127 (xgo (xca ev 127) 127 (ev 127) 85) 0 [some (xA (some a0)), some (xI n1), some (xI n2), none, none, none, none] [] w = b_X8_paste_0 ev a0 n1 n2 w := rfl
theorem e_X8_paste_0 (a0 : Nat) (n1 : Int32) (n2 : Int32) (w : xW) : xev 127 0 [some (xA (some a0)), some (xI n1), some (xI n2), none, none, none, none] [] w = b_X8_paste_0 xev a0 n1 n2 w := (xev_go 127 85 0 [some (xA (some a0)), some (xI n1), some (xI n2), none, none, none, none] [] w).trans (r_X8_paste_0 xev a0 n1 n2 w)
def b_X8_paste_173 (ev : Nat → xK) (a0 : Nat) (n1 : Int32) (n2 : Int32) (n3 : Int32) (n5 : Int32) (n6 : Int32) (w : xW) : Option xR := (xgA w a0 7 1).bind fun r1 => r1.bind fun o3 => (xaI w o3 n3).bind fun i2 => if n6 < i2 then if n6 < n2 then (xobj w a0 7).bind fun _ => (ev 95 0 [some (xA (some a0)), some (xI (((24 : Int32) * n3) + n6)), some (xI (((24 : Int32) * n5) + n6))] [] w).bind fun p4 => xrV p4.1 (ev 127 173 [some (xA (some a0)), some (xI n1), some (xI n2), some (xI n3), none, some (xI n5), some (xI (n6 + (1 : Int32)))] [] p4.2) else (xgA w a0 7 1).bind fun r5 => (xgI w a0 7 6).bind fun i6 => r5.bind fun o8 => (xaI w o8 i6).bind fun i7 => (xobj w a0 7).bind fun _ => (ev 95 0 [some (xA (some a0)), some (xI (((24 : Int32) * n3) + n6)), some (xI (((24 : Int32) * n5) + (n6 + i7)))] [] w).bind fun p9 => xrV p9.1 (ev 127 173 [some (xA (some a0)), some (xI n1), some (xI n2), some (xI n3), none, some (xI n5), some (xI (n6 + (1 : Int32)))] [] p9.2) else ev 127 233 [some (xA (some a0)), some (xI n1), some (xI n2), none, none, some (xI n5), some (xI (0 : Int32))] [] w
set_option maxRecDepth 100000 in
set_option maxHeartbeats 4000000 in
theorem r_X8_paste_173 (ev : Nat → xK) (a0 : Nat) (n1 : Int32) (n2 : Int32) (n3 : Int32) (n5 : Int32) (n6 : Int32) (w : xW) : xstp (xca ev 127) 127 (xgo (xca ev 127) 127 (ev 127) 31) 173 [some (xA (some a0)), some (xI n1), some (xI n2), some (xI n3), none, some (xI n5), some (xI n6)] [] w = b_X8_paste_173 ev a0 n1 n2 n3 n5 n6 w := rfl
theorem e_X8_paste_173 (a0 : Nat) (n1 : Int32) (n2 : Int32) (n3 : Int32) (n5 : Int32) (n6 : Int32) (w : xW) : xev 127 173 [some (xA (some a0)), some (xI n1), some (xI n2), some (xI n3), none, some (xI n5), some (xI n6)] [] w = b_X8_paste_173 xev a0 n1 n2 n3 n5 n6 w := (xev_go 127 31 173 [some (xA (some a0)), some (xI n1), some (xI n2), some (xI n3), none, some (xI n5), some (xI n6)] [] w).trans (r_X8_paste_173 xev a0 n1 n2 n3 n5 n6 w)
def b_X8_paste_233 (ev : Nat → xK) (a0 : Nat) (n1 : Int32) (n2 : Int32) (n5 : Int32) (n6 : Int32) (w : xW) : Option xR := (xgA w a0 7 1).bind fun r1 => (xgI w a0 7 6).bind fun i2 => r1.bind fun o4 => (xaI w o4 i2).bind fun i3 => if n6 < i3 then (xgI w a0 7 6).bind fun i5 => (xobj w a0 7).bind fun _ => (ev 126 0 [some (xA (some a0)), some (xI i5), some (xI n6), some (xI n5), some (xI (n2 + n6)), none] [] w).bind fun p6 => xrV p6.1 (ev 127 233 [some (xA (some a0)), some (xI n1), some (xI n2), none, none, some (xI n5), some (xI (n6 + (1 : Int32)))] [] p6.2) else (xgA w a0 7 5).bind fun r7 => r7.bind fun o9 => (xsI w o9 n1 n5).bind fun w8 => some (some (xI (0 : Int32)), w8)
set_option maxRecDepth 100000 in
set_option maxHeartbeats 4000000 in
theorem r_X8_paste_233 (ev : Nat → xK) (a0 : Nat) (n1 : Int32) (n2 : Int32) (n5 : Int32) (n6 : Int32) (w : xW) : xstp (xca ev 127) 127 (xgo (xca ev 127) 127 (ev 127) 20) 233 [some (xA (some a0)), some (xI n1), some (xI n2), none, none, some (xI n5), some (xI n6)] [] w = b_X8_paste_233 ev a0 n1 n2 n5 n6 w := rfl
theorem e_X8_paste_233 (a0 : Nat) (n1 : Int32) (n2 : Int32) (n5 : Int32) (n6 : Int32) (w : xW) : xev 127 233 [some (xA (some a0)), some (xI n1), some (xI n2), none, none, some (xI n5), some (xI n6)] [] w = b_X8_paste_233 xev a0 n1 n2 n5 n6 w := (xev_go 127 20 233 [some (xA (some a0)), some (xI n1), some (xI n2), none, none, some (xI n5), some (xI n6)] [] w).trans (r_X8_paste_233 xev a0 n1 n2 n5 n6 w)
def b_X8_turn_0 (ev : Nat → xK) (a0 : Nat) (n1 : Int32) (n2 : Int32) (w : xW) : Option xR := (ev 89 0 [some (xI n1)] [] w).bind fun p1 => xrI p1.1 fun i2 => if i2 = 0 then some (some (xI (-1 : Int32)), p1.2) else (ev 88 0 [some (xJ n2.toInt64), none, some (xJ (0 : Int64)), none, some (xJ (12 : Int64)), none] [] p1.2).bind fun p3 => xrI p3.1 fun i4 => if i4 = 0 then some (some (xI (-2 : Int32)), p3.2) else (xobj p3.2 a0 7).bind fun _ => (ev 91 0 [some (xA (some a0)), some (xI n1)] [] p3.2).bind fun p5 => xrI p5.1 fun i6 => if i6 = 0 then (xgA p5.2 a0 7 5).bind fun r7 => r7.bind fun o9 => (xaI p5.2 o9 n1).bind fun i8 => (xobj p5.2 a0 7).bind fun _ => (ev 125 0 [some (xA (some a0)), some (xI i8), some (xI n2), none] [] p5.2).bind fun p10 => xrI p10.1 fun i11 => (xgA p10.2 a0 7 1).bind fun r12 => r12.bind fun o14 => (xaI p10.2 o14 i8).bind fun i13 => if i11 < i13 then (xput p10.2 a0 7 10 (xJ i11.toInt64)).bind fun w15 => some (some (xI (5 : Int32)), w15) else (xobj p10.2 a0 7).bind fun _ => (ev 92 0 [some (xA (some a0)), some (xI (-6 : Int32)), none, none, none, none] [] p10.2).bind fun p16 => xrI p16.1 fun i17 => (xgA p16.2 a0 7 1).bind fun r18 => r18.bind fun o20 => (xaI p16.2 o20 i8).bind fun i19 => (xobj p16.2 a0 7).bind fun _ => (ev 93 0 [some (xA (some a0)), some (xI i17), some (xI n2), some (xI i19), none] [] p16.2).bind fun p21 => xrV p21.1 (ev 128 97 [some (xA (some a0)), some (xI n1), none, some (xI i8), none, some (xI i17), some (xI (0 : Int32))] [] p21.2) else (xobj p5.2 a0 7).bind fun _ => (ev 91 0 [some (xA (some a0)), some (xI n1)] [] p5.2).bind fun p22 => xrI p22.1 fun i23 => some (some (xI i23), p22.2)
set_option maxRecDepth 100000 in
set_option maxHeartbeats 4000000 in
theorem r_X8_turn_0 (ev : Nat → xK) (a0 : Nat) (n1 : Int32) (n2 : Int32) (w : xW) : xstp (xca ev 128) 128 (xgo (xca ev 128) 128 (ev 128) 45) 0 [some (xA (some a0)), some (xI n1), some (xI n2), none, none, none, none] [] w = b_X8_turn_0 ev a0 n1 n2 w := rfl
theorem e_X8_turn_0 (a0 : Nat) (n1 : Int32) (n2 : Int32) (w : xW) : xev 128 0 [some (xA (some a0)), some (xI n1), some (xI n2), none, none, none, none] [] w = b_X8_turn_0 xev a0 n1 n2 w := (xev_go 128 45 0 [some (xA (some a0)), some (xI n1), some (xI n2), none, none, none, none] [] w).trans (r_X8_turn_0 xev a0 n1 n2 w)
def b_X8_turn_97 (ev : Nat → xK) (a0 : Nat) (n1 : Int32) (n3 : Int32) (n5 : Int32) (n6 : Int32) (w : xW) : Option xR := (xgA w a0 7 1).bind fun r1 => r1.bind fun o3 => (xaI w o3 n3).bind fun i2 => if n6 < i2 then (xobj w a0 7).bind fun _ => (ev 126 0 [some (xA (some a0)), some (xI n3), some (xI n6), some (xI n5), some (xI n6), none] [] w).bind fun p4 => xrV p4.1 (ev 128 97 [some (xA (some a0)), some (xI n1), none, some (xI n3), none, some (xI n5), some (xI (n6 + (1 : Int32)))] [] p4.2) else (xgA w a0 7 5).bind fun r5 => r5.bind fun o7 => (xsI w o7 n1 n5).bind fun w6 => some (some (xI (0 : Int32)), w6)
set_option maxRecDepth 100000 in
set_option maxHeartbeats 4000000 in
theorem r_X8_turn_97 (ev : Nat → xK) (a0 : Nat) (n1 : Int32) (n3 : Int32) (n5 : Int32) (n6 : Int32) (w : xW) : xstp (xca ev 128) 128 (xgo (xca ev 128) 128 (ev 128) 16) 97 [some (xA (some a0)), some (xI n1), none, some (xI n3), none, some (xI n5), some (xI n6)] [] w = b_X8_turn_97 ev a0 n1 n3 n5 n6 w := rfl
theorem e_X8_turn_97 (a0 : Nat) (n1 : Int32) (n3 : Int32) (n5 : Int32) (n6 : Int32) (w : xW) : xev 128 97 [some (xA (some a0)), some (xI n1), none, some (xI n3), none, some (xI n5), some (xI n6)] [] w = b_X8_turn_97 xev a0 n1 n3 n5 n6 w := (xev_go 128 16 97 [some (xA (some a0)), some (xI n1), none, some (xI n3), none, some (xI n5), some (xI n6)] [] w).trans (r_X8_turn_97 xev a0 n1 n3 n5 n6 w)
def b_X8_fits_0 (ev : Nat → xK) (a0 : Nat) (n1 : Int32) (w : xW) : Option xR := (ev 89 0 [some (xI n1)] [] w).bind fun p1 => xrI p1.1 fun i2 => if i2 = 0 then some (some (xI (-1 : Int32)), p1.2) else ev 129 13 [some (xA (some a0)), some (xI n1), some (xI (0 : Int32)), some (xI (0 : Int32))] [] p1.2
set_option maxRecDepth 100000 in
set_option maxHeartbeats 4000000 in
theorem r_X8_fits_0 (ev : Nat → xK) (a0 : Nat) (n1 : Int32) (w : xW) : xstp (xca ev 129) 129 (xgo (xca ev 129) 129 (ev 129) 9) 0 [some (xA (some a0)), some (xI n1), none, none] [] w = b_X8_fits_0 ev a0 n1 w := rfl
theorem e_X8_fits_0 (a0 : Nat) (n1 : Int32) (w : xW) : xev 129 0 [some (xA (some a0)), some (xI n1), none, none] [] w = b_X8_fits_0 xev a0 n1 w := (xev_go 129 9 0 [some (xA (some a0)), some (xI n1), none, none] [] w).trans (r_X8_fits_0 xev a0 n1 w)
def b_X8_fits_13 (ev : Nat → xK) (a0 : Nat) (n1 : Int32) (n2 : Int32) (n3 : Int32) (w : xW) : Option xR := if n3 < (13 : Int32) then (xobj w a0 7).bind fun _ => (ev 90 0 [some (xA (some a0)), some (xI n1)] [] w).bind fun p1 => xrI p1.1 fun i2 => if i2 = 0 then some (some (xI n2), p1.2) else (xgA p1.2 a0 7 5).bind fun r3 => r3.bind fun o5 => (xaI p1.2 o5 n1).bind fun i4 => (xobj p1.2 a0 7).bind fun _ => (ev 125 0 [some (xA (some a0)), some (xI i4), some (xI n3), none] [] p1.2).bind fun p6 => xrI p6.1 fun i7 => (xgA p6.2 a0 7 1).bind fun r8 => (xgA p6.2 a0 7 5).bind fun r9 => r9.bind fun o11 => (xaI p6.2 o11 n1).bind fun i10 => r8.bind fun o13 => (xaI p6.2 o13 i10).bind fun i12 => if i7 = i12 then ev 129 13 [some (xA (some a0)), some (xI n1), some (xI (n2 ||| ((1 : Int32) <<< (n3 &&& 31)))), some (xI (n3 + (1 : Int32)))] [] p6.2 else ev 129 13 [some (xA (some a0)), some (xI n1), some (xI (n2 ||| (0 : Int32))), some (xI (n3 + (1 : Int32)))] [] p6.2 else some (some (xI n2), w)
set_option maxRecDepth 100000 in
set_option maxHeartbeats 4000000 in
theorem r_X8_fits_13 (ev : Nat → xK) (a0 : Nat) (n1 : Int32) (n2 : Int32) (n3 : Int32) (w : xW) : xstp (xca ev 129) 129 (xgo (xca ev 129) 129 (ev 129) 33) 13 [some (xA (some a0)), some (xI n1), some (xI n2), some (xI n3)] [] w = b_X8_fits_13 ev a0 n1 n2 n3 w := rfl
theorem e_X8_fits_13 (a0 : Nat) (n1 : Int32) (n2 : Int32) (n3 : Int32) (w : xW) : xev 129 13 [some (xA (some a0)), some (xI n1), some (xI n2), some (xI n3)] [] w = b_X8_fits_13 xev a0 n1 n2 n3 w := (xev_go 129 33 13 [some (xA (some a0)), some (xI n1), some (xI n2), some (xI n3)] [] w).trans (r_X8_fits_13 xev a0 n1 n2 n3 w)
def b_X8_pourOne_0 (ev : Nat → xK) (a0 : Nat) (n1 : Int32) (n2 : Int32) (n3 : Int32) (n4 : Int32) (n5 : Int32) (w : xW) : Option xR := if n5 = (8 : Int32) then (xobj w a0 7).bind fun _ => (ev 116 0 [some (xA (some a0)), some (xI n1), some (xI n2), none, none] [] w).bind fun p1 => xrI p1.1 fun i2 => if i2 = 0 then (xobj p1.2 a0 7).bind fun _ => (ev 117 0 [some (xA (some a0)), some (xI n3), some (xI n4), none] [] p1.2).bind fun p3 => xrI p3.1 fun i4 => some (some (xI i4), p3.2) else some (some (xI i2), p1.2) else (xobj w a0 7).bind fun _ => (ev 108 0 [some (xA (some a0)), some (xI n1), some (xI n2), some (xI n5), none, none] [] w).bind fun p5 => xrI p5.1 fun i6 => (xobj p5.2 a0 7).bind fun _ => (ev 106 0 [some (xA (some a0)), some (xI n5), some (xI i6)] [] p5.2).bind fun p7 => xrI p7.1 fun i8 => if i8 = 0 then (xgJ p7.2 a0 7 21).bind fun j9 => (xgD p7.2 a0 7 22).bind fun d10 => (xobj p7.2 a0 7).bind fun _ => (ev 111 0 [some (xA (some a0)), some (xI n3), some (xI n4), some (xI n5), some (xJ j9), none, some (xD d10), none, none] [] p7.2).bind fun p11 => xrI p11.1 fun i12 => (xobj p11.2 a0 7).bind fun _ => (ev 106 0 [some (xA (some a0)), some (xI ((9 : Int32) + n5)), some (xI i12)] [] p11.2).bind fun p13 => xrI p13.1 fun i14 => some (some (xI i14), p13.2) else some (some (xI i8), p7.2)
set_option maxRecDepth 100000 in
set_option maxHeartbeats 4000000 in
theorem r_X8_pourOne_0 (ev : Nat → xK) (a0 : Nat) (n1 : Int32) (n2 : Int32) (n3 : Int32) (n4 : Int32) (n5 : Int32) (w : xW) : xstp (xca ev 130) 130 (xgo (xca ev 130) 130 (ev 130) 31) 0 [some (xA (some a0)), some (xI n1), some (xI n2), some (xI n3), some (xI n4), some (xI n5), none] [] w = b_X8_pourOne_0 ev a0 n1 n2 n3 n4 n5 w := rfl
theorem e_X8_pourOne_0 (a0 : Nat) (n1 : Int32) (n2 : Int32) (n3 : Int32) (n4 : Int32) (n5 : Int32) (w : xW) : xev 130 0 [some (xA (some a0)), some (xI n1), some (xI n2), some (xI n3), some (xI n4), some (xI n5), none] [] w = b_X8_pourOne_0 xev a0 n1 n2 n3 n4 n5 w := (xev_go 130 31 0 [some (xA (some a0)), some (xI n1), some (xI n2), some (xI n3), some (xI n4), some (xI n5), none] [] w).trans (r_X8_pourOne_0 xev a0 n1 n2 n3 n4 n5 w)
def b_X8_pour_0 (ev : Nat → xK) (a0 : Nat) (n1 : Int32) (n2 : Int32) (n3 : Int32) (n4 : Int32) (n5 : Int32) (w : xW) : Option xR := (ev 89 0 [some (xI n1)] [] w).bind fun p1 => xrI p1.1 fun i2 => if i2 = 0 then some (some (xI (-1 : Int32)), p1.2) else (ev 89 0 [some (xI n3)] [] p1.2).bind fun p3 => xrI p3.1 fun i4 => if i4 = 0 then some (some (xI (-1 : Int32)), p3.2) else (ev 88 0 [some (xJ n5.toInt64), none, some (xJ (0 : Int64)), none, some (xJ (8 : Int64)), none] [] p3.2).bind fun p5 => xrI p5.1 fun i6 => if i6 = 0 then some (some (xI (-2 : Int32)), p5.2) else (xput p5.2 a0 7 15 (xI (0 : Int32))).bind fun w7 => ev 131 43 [some (xA (some a0)), some (xI n1), some (xI n2), some (xI n3), some (xI n4), some (xI n5), some (xI (0 : Int32)), some (xI (0 : Int32))] [] w7
set_option maxRecDepth 100000 in
set_option maxHeartbeats 4000000 in
theorem r_X8_pour_0 (ev : Nat → xK) (a0 : Nat) (n1 : Int32) (n2 : Int32) (n3 : Int32) (n4 : Int32) (n5 : Int32) (w : xW) : xstp (xca ev 131) 131 (xgo (xca ev 131) 131 (ev 131) 21) 0 [some (xA (some a0)), some (xI n1), some (xI n2), some (xI n3), some (xI n4), some (xI n5), none, none] [] w = b_X8_pour_0 ev a0 n1 n2 n3 n4 n5 w := rfl
theorem e_X8_pour_0 (a0 : Nat) (n1 : Int32) (n2 : Int32) (n3 : Int32) (n4 : Int32) (n5 : Int32) (w : xW) : xev 131 0 [some (xA (some a0)), some (xI n1), some (xI n2), some (xI n3), some (xI n4), some (xI n5), none, none] [] w = b_X8_pour_0 xev a0 n1 n2 n3 n4 n5 w := (xev_go 131 21 0 [some (xA (some a0)), some (xI n1), some (xI n2), some (xI n3), some (xI n4), some (xI n5), none, none] [] w).trans (r_X8_pour_0 xev a0 n1 n2 n3 n4 n5 w)
def b_X8_pour_43 (ev : Nat → xK) (a0 : Nat) (n1 : Int32) (n2 : Int32) (n3 : Int32) (n4 : Int32) (n5 : Int32) (n6 : Int32) (n7 : Int32) (w : xW) : Option xR := if (24 : Int32) < n7 then some (some (xI n6), w) else (xgI w a0 7 15).bind fun i1 => if i1 = 0 then (xobj w a0 7).bind fun _ => (ev 130 0 [some (xA (some a0)), some (xI n1), some (xI (n2 + n7)), some (xI n3), some (xI (n4 + n7)), some (xI n5), none] [] w).bind fun p2 => xrI p2.1 fun i3 => (xput p2.2 a0 7 15 (xI i3)).bind fun w4 => (xgI w4 a0 7 15).bind fun i5 => if i5 = 0 then ev 131 43 [some (xA (some a0)), some (xI n1), some (xI n2), some (xI n3), some (xI n4), some (xI n5), some (xI (n6 + (1 : Int32))), some (xI (n7 + (1 : Int32)))] [] w4 else ev 131 43 [some (xA (some a0)), some (xI n1), some (xI n2), some (xI n3), some (xI n4), some (xI n5), some (xI (n6 + (0 : Int32))), some (xI (n7 + (1 : Int32)))] [] w4 else some (some (xI n6), w)
set_option maxRecDepth 100000 in
set_option maxHeartbeats 4000000 in
theorem r_X8_pour_43 (ev : Nat → xK) (a0 : Nat) (n1 : Int32) (n2 : Int32) (n3 : Int32) (n4 : Int32) (n5 : Int32) (n6 : Int32) (n7 : Int32) (w : xW) : xstp (xca ev 131) 131 (xgo (xca ev 131) 131 (ev 131) 31) 43 [some (xA (some a0)), some (xI n1), some (xI n2), some (xI n3), some (xI n4), some (xI n5), some (xI n6), some (xI n7)] [] w = b_X8_pour_43 ev a0 n1 n2 n3 n4 n5 n6 n7 w := rfl
theorem e_X8_pour_43 (a0 : Nat) (n1 : Int32) (n2 : Int32) (n3 : Int32) (n4 : Int32) (n5 : Int32) (n6 : Int32) (n7 : Int32) (w : xW) : xev 131 43 [some (xA (some a0)), some (xI n1), some (xI n2), some (xI n3), some (xI n4), some (xI n5), some (xI n6), some (xI n7)] [] w = b_X8_pour_43 xev a0 n1 n2 n3 n4 n5 n6 n7 w := (xev_go 131 31 43 [some (xA (some a0)), some (xI n1), some (xI n2), some (xI n3), some (xI n4), some (xI n5), some (xI n6), some (xI n7)] [] w).trans (r_X8_pour_43 xev a0 n1 n2 n3 n4 n5 n6 n7 w)
def b_X8_readAll_0 (ev : Nat → xK) (a0 : Nat) (n1 : Int32) (n2 : Int32) (n3 : Int32) (w : xW) : Option xR := (xput w a0 7 25 (xI (0 : Int32))).bind fun w1 => ev 132 11 [some (xA (some a0)), some (xI n1), some (xI n2), some (xI n3), some (xI (0 : Int32)), some (xI (0 : Int32))] [] w1
set_option maxRecDepth 100000 in
set_option maxHeartbeats 4000000 in
theorem r_X8_readAll_0 (ev : Nat → xK) (a0 : Nat) (n1 : Int32) (n2 : Int32) (n3 : Int32) (w : xW) : xstp (xca ev 132) 132 (xgo (xca ev 132) 132 (ev 132) 9) 0 [some (xA (some a0)), some (xI n1), some (xI n2), some (xI n3), none, none] [] w = b_X8_readAll_0 ev a0 n1 n2 n3 w := rfl
theorem e_X8_readAll_0 (a0 : Nat) (n1 : Int32) (n2 : Int32) (n3 : Int32) (w : xW) : xev 132 0 [some (xA (some a0)), some (xI n1), some (xI n2), some (xI n3), none, none] [] w = b_X8_readAll_0 xev a0 n1 n2 n3 w := (xev_go 132 9 0 [some (xA (some a0)), some (xI n1), some (xI n2), some (xI n3), none, none] [] w).trans (r_X8_readAll_0 xev a0 n1 n2 n3 w)
def b_X8_readAll_11 (ev : Nat → xK) (a0 : Nat) (n1 : Int32) (n2 : Int32) (n3 : Int32) (n4 : Int32) (n5 : Int32) (w : xW) : Option xR := if (24 : Int32) < n5 then some (some (xI n4), w) else if n4 = 0 then (xobj w a0 7).bind fun _ => (ev 108 0 [some (xA (some a0)), some (xI n1), some (xI n5), some (xI n2), none, none] [] w).bind fun p1 => xrI p1.1 fun i2 => (xobj p1.2 a0 7).bind fun _ => (ev 106 0 [some (xA (some a0)), some (xI n2), some (xI i2)] [] p1.2).bind fun p3 => xrI p3.1 fun i4 => if i4 = 0 then (xgA p3.2 a0 7 23).bind fun r5 => (xgJ p3.2 a0 7 21).bind fun j6 => r5.bind fun o8 => (xsJ p3.2 o8 (n3 + n5) j6).bind fun w7 => (xgA w7 a0 7 24).bind fun r9 => (xgD w7 a0 7 22).bind fun d10 => r9.bind fun o12 => (xsD w7 o12 (n3 + n5) d10).bind fun w11 => (xgI w11 a0 7 25).bind fun i13 => (xput w11 a0 7 25 (xI (i13 + (1 : Int32)))).bind fun w14 => ev 132 11 [some (xA (some a0)), some (xI n1), some (xI n2), some (xI n3), some (xI i4), some (xI (n5 + (1 : Int32)))] [] w14 else ev 132 11 [some (xA (some a0)), some (xI n1), some (xI n2), some (xI n3), some (xI i4), some (xI (n5 + (1 : Int32)))] [] p3.2 else some (some (xI n4), w)
set_option maxRecDepth 100000 in
set_option maxHeartbeats 4000000 in
theorem r_X8_readAll_11 (ev : Nat → xK) (a0 : Nat) (n1 : Int32) (n2 : Int32) (n3 : Int32) (n4 : Int32) (n5 : Int32) (w : xW) : xstp (xca ev 132) 132 (xgo (xca ev 132) 132 (ev 132) 42) 11 [some (xA (some a0)), some (xI n1), some (xI n2), some (xI n3), some (xI n4), some (xI n5)] [] w = b_X8_readAll_11 ev a0 n1 n2 n3 n4 n5 w := rfl
theorem e_X8_readAll_11 (a0 : Nat) (n1 : Int32) (n2 : Int32) (n3 : Int32) (n4 : Int32) (n5 : Int32) (w : xW) : xev 132 11 [some (xA (some a0)), some (xI n1), some (xI n2), some (xI n3), some (xI n4), some (xI n5)] [] w = b_X8_readAll_11 xev a0 n1 n2 n3 n4 n5 w := (xev_go 132 42 11 [some (xA (some a0)), some (xI n1), some (xI n2), some (xI n3), some (xI n4), some (xI n5)] [] w).trans (r_X8_readAll_11 xev a0 n1 n2 n3 n4 n5 w)
def b_X8_sum_0 (ev : Nat → xK) (a0 : Nat) (n1 : Int32) (n2 : Int32) (w : xW) : Option xR := (ev 89 0 [some (xI n1)] [] w).bind fun p1 => xrI p1.1 fun i2 => if i2 = 0 then some (some (xI (-1 : Int32)), p1.2) else (ev 88 0 [some (xJ n2.toInt64), none, some (xJ (1 : Int64)), none, some (xJ (7 : Int64)), none] [] p1.2).bind fun p3 => xrI p3.1 fun i4 => if i4 = 0 then some (some (xI (-2 : Int32)), p3.2) else (xobj p3.2 a0 7).bind fun _ => (ev 132 0 [some (xA (some a0)), some (xI n1), some (xI n2), some (xI (0 : Int32)), none, none] [] p3.2).bind fun p5 => xrI p5.1 fun i6 => (xput p5.2 a0 7 15 (xI i6)).bind fun w7 => (xgI w7 a0 7 15).bind fun i8 => if i8 = (4 : Int32) then ev 133 62 [some (xA (some a0)), none, some (xI n2), some (xJ (0 : Int64)), none, some (xF (0 : UInt32)), some (xD (0 : UInt64)), none, some (xI (0 : Int32))] [] w7 else (xgI w7 a0 7 15).bind fun i9 => some (some (xI ((-10 : Int32) - i9)), w7)
set_option maxRecDepth 100000 in
set_option maxHeartbeats 4000000 in
theorem r_X8_sum_0 (ev : Nat → xK) (a0 : Nat) (n1 : Int32) (n2 : Int32) (w : xW) : xstp (xca ev 133) 133 (xgo (xca ev 133) 133 (ev 133) 30) 0 [some (xA (some a0)), some (xI n1), some (xI n2), none, none, none, none, none, none] [] w = b_X8_sum_0 ev a0 n1 n2 w := rfl
theorem e_X8_sum_0 (a0 : Nat) (n1 : Int32) (n2 : Int32) (w : xW) : xev 133 0 [some (xA (some a0)), some (xI n1), some (xI n2), none, none, none, none, none, none] [] w = b_X8_sum_0 xev a0 n1 n2 w := (xev_go 133 30 0 [some (xA (some a0)), some (xI n1), some (xI n2), none, none, none, none, none, none] [] w).trans (r_X8_sum_0 xev a0 n1 n2 w)
def b_X8_sum_62 (ev : Nat → xK) (a0 : Nat) (n2 : Int32) (v3 : Int64) (f5 : UInt32) (y6 : UInt64) (n8 : Int32) (w : xW) : Option xR := (xgI w a0 7 25).bind fun i1 => if n8 < i1 then (xgA w a0 7 23).bind fun r2 => r2.bind fun o4 => (xaJ w o4 n8).bind fun j3 => (xgA w a0 7 24).bind fun r5 => r5.bind fun o7 => (xaD w o7 n8).bind fun d6 => xnF (FP.d2f d6) fun z8 => xnF (FP.fadd f5 z8) fun z9 => (xgA w a0 7 24).bind fun r10 => r10.bind fun o12 => (xaD w o12 n8).bind fun d11 => xnD (FP.dadd y6 d11) fun z13 => ev 133 62 [some (xA (some a0)), none, some (xI n2), some (xJ (v3 + j3)), none, some (xF z9), some (xD z13), none, some (xI (n8 + (1 : Int32)))] [] w else if n2 = (6 : Int32) then xnD (FP.f2d f5) fun z14 => (ev 99 0 [some (xD z14), none, none, none, none, none] [] w).bind fun p15 => xrI p15.1 fun i16 => (xput p15.2 a0 7 10 (xJ i16.toInt64)).bind fun w17 => some (some (xI (0 : Int32)), w17) else if n2 = (7 : Int32) then (ev 100 0 [some (xD y6), none, none, none, none, none, none, none] [] w).bind fun p18 => xrJ p18.1 fun j19 => (xput p18.2 a0 7 10 (xJ j19)).bind fun w20 => some (some (xI (0 : Int32)), w20) else (xput w a0 7 10 (xJ v3)).bind fun w21 => some (some (xI (0 : Int32)), w21)
set_option maxRecDepth 100000 in
set_option maxHeartbeats 4000000 in
theorem r_X8_sum_62 (ev : Nat → xK) (a0 : Nat) (n2 : Int32) (v3 : Int64) (f5 : UInt32) (y6 : UInt64) (n8 : Int32) (w : xW) : xstp (xca ev 133) 133 (xgo (xca ev 133) 133 (ev 133) 30) 62 [some (xA (some a0)), none, some (xI n2), some (xJ v3), none, some (xF f5), some (xD y6), none, some (xI n8)] [] w = b_X8_sum_62 ev a0 n2 v3 f5 y6 n8 w := rfl
theorem e_X8_sum_62 (a0 : Nat) (n2 : Int32) (v3 : Int64) (f5 : UInt32) (y6 : UInt64) (n8 : Int32) (w : xW) : xev 133 62 [some (xA (some a0)), none, some (xI n2), some (xJ v3), none, some (xF f5), some (xD y6), none, some (xI n8)] [] w = b_X8_sum_62 xev a0 n2 v3 f5 y6 n8 w := (xev_go 133 30 62 [some (xA (some a0)), none, some (xI n2), some (xJ v3), none, some (xF f5), some (xD y6), none, some (xI n8)] [] w).trans (r_X8_sum_62 xev a0 n2 v3 f5 y6 n8 w)
def b_X8_order_0 (ev : Nat → xK) (n0 : Int32) (v1 : Int64) (y3 : UInt64) (v5 : Int64) (y7 : UInt64) (w : xW) : Option xR := if n0 < (6 : Int32) then if lg_cmp v1 v5 < 0 then some (some (xI (0 : Int32)), w) else if lg_cmp v1 v5 = 0 then some (some (xI (1 : Int32)), w) else some (some (xI (2 : Int32)), w) else if Op.cmpValue (FP.dcmp y3 y7) .g < 0 then some (some (xI (0 : Int32)), w) else if Op.cmpValue (FP.dcmp y3 y7) .l = 0 then some (some (xI (1 : Int32)), w) else some (some (xI (2 : Int32)), w)
set_option maxRecDepth 100000 in
set_option maxHeartbeats 4000000 in
theorem r_X8_order_0 (ev : Nat → xK) (n0 : Int32) (v1 : Int64) (y3 : UInt64) (v5 : Int64) (y7 : UInt64) (w : xW) : xstp (xca ev 134) 134 (xgo (xca ev 134) 134 (ev 134) 15) 0 [some (xI n0), some (xJ v1), none, some (xD y3), none, some (xJ v5), none, some (xD y7), none] [] w = b_X8_order_0 ev n0 v1 y3 v5 y7 w := rfl
theorem e_X8_order_0 (n0 : Int32) (v1 : Int64) (y3 : UInt64) (v5 : Int64) (y7 : UInt64) (w : xW) : xev 134 0 [some (xI n0), some (xJ v1), none, some (xD y3), none, some (xJ v5), none, some (xD y7), none] [] w = b_X8_order_0 xev n0 v1 y3 v5 y7 w := (xev_go 134 15 0 [some (xI n0), some (xJ v1), none, some (xD y3), none, some (xJ v5), none, some (xD y7), none] [] w).trans (r_X8_order_0 xev n0 v1 y3 v5 y7 w)
def b_X8_where_0 (ev : Nat → xK) (a0 : Nat) (n1 : Int32) (n2 : Int32) (n3 : Int32) (v4 : Int64) (w : xW) : Option xR := (ev 89 0 [some (xI n1)] [] w).bind fun p1 => xrI p1.1 fun i2 => if i2 = 0 then some (some (xI (-1 : Int32)), p1.2) else (ev 88 0 [some (xJ n2.toInt64), none, some (xJ (0 : Int64)), none, some (xJ (7 : Int64)), none] [] p1.2).bind fun p3 => xrI p3.1 fun i4 => if i4 = 0 then some (some (xI (-2 : Int32)), p3.2) else (ev 88 0 [some (xJ n3.toInt64), none, some (xJ (0 : Int64)), none, some (xJ (2 : Int64)), none] [] p3.2).bind fun p5 => xrI p5.1 fun i6 => if i6 = 0 then some (some (xI (-2 : Int32)), p5.2) else (xobj p5.2 a0 7).bind fun _ => (ev 132 0 [some (xA (some a0)), some (xI n1), some (xI n2), some (xI (0 : Int32)), none, none] [] p5.2).bind fun p7 => xrI p7.1 fun i8 => (xput p7.2 a0 7 15 (xI i8)).bind fun w9 => (xgI w9 a0 7 15).bind fun i10 => if i10 = (4 : Int32) then if n2 < (6 : Int32) then (xobj w9 a0 7).bind fun _ => (ev 96 0 [some (xA (some a0)), some (xI (5 : Int32)), some (xJ v4), none] [] w9).bind fun p11 => xrV p11.1 ((xput p11.2 a0 7 18 (xI (0 : Int32))).bind fun w12 => ev 135 88 [some (xA (some a0)), none, some (xI n2), some (xI n3), none, none, some (xI (0 : Int32))] [] w12) else (xobj w9 a0 7).bind fun _ => (ev 96 0 [some (xA (some a0)), some (xI n2), some (xJ v4), none] [] w9).bind fun p13 => xrV p13.1 ((xput p13.2 a0 7 18 (xI (0 : Int32))).bind fun w14 => ev 135 88 [some (xA (some a0)), none, some (xI n2), some (xI n3), none, none, some (xI (0 : Int32))] [] w14) else (xgI w9 a0 7 15).bind fun i15 => some (some (xI ((-10 : Int32) - i15)), w9)
set_option maxRecDepth 100000 in
set_option maxHeartbeats 4000000 in
theorem r_X8_where_0 (ev : Nat → xK) (a0 : Nat) (n1 : Int32) (n2 : Int32) (n3 : Int32) (v4 : Int64) (w : xW) : xstp (xca ev 135) 135 (xgo (xca ev 135) 135 (ev 135) 41) 0 [some (xA (some a0)), some (xI n1), some (xI n2), some (xI n3), some (xJ v4), none, none] [] w = b_X8_where_0 ev a0 n1 n2 n3 v4 w := rfl
theorem e_X8_where_0 (a0 : Nat) (n1 : Int32) (n2 : Int32) (n3 : Int32) (v4 : Int64) (w : xW) : xev 135 0 [some (xA (some a0)), some (xI n1), some (xI n2), some (xI n3), some (xJ v4), none, none] [] w = b_X8_where_0 xev a0 n1 n2 n3 v4 w := (xev_go 135 41 0 [some (xA (some a0)), some (xI n1), some (xI n2), some (xI n3), some (xJ v4), none, none] [] w).trans (r_X8_where_0 xev a0 n1 n2 n3 v4 w)
def b_X8_where_88 (ev : Nat → xK) (a0 : Nat) (n2 : Int32) (n3 : Int32) (n6 : Int32) (w : xW) : Option xR := (xgI w a0 7 25).bind fun i1 => if n6 < i1 then (xgA w a0 7 23).bind fun r2 => r2.bind fun o4 => (xaJ w o4 n6).bind fun j3 => (xgA w a0 7 24).bind fun r5 => r5.bind fun o7 => (xaD w o7 n6).bind fun d6 => (xgJ w a0 7 19).bind fun j8 => (xgD w a0 7 20).bind fun d9 => (ev 134 0 [some (xI n2), some (xJ j3), none, some (xD d6), none, some (xJ j8), none, some (xD d9), none] [] w).bind fun p10 => xrI p10.1 fun i11 => if i11 = n3 then (xgA p10.2 a0 7 16).bind fun r12 => (xgI p10.2 a0 7 18).bind fun i13 => r12.bind fun o15 => (xsI p10.2 o15 i13 n6).bind fun w14 => (xgA w14 a0 7 17).bind fun r16 => (xgI w14 a0 7 18).bind fun i17 => r16.bind fun o19 => (xsI w14 o19 i17 n6).bind fun w18 => (xgI w18 a0 7 18).bind fun i20 => (xput w18 a0 7 18 (xI (i20 + (1 : Int32)))).bind fun w21 => ev 135 88 [some (xA (some a0)), none, some (xI n2), some (xI n3), none, none, some (xI (n6 + (1 : Int32)))] [] w21 else ev 135 88 [some (xA (some a0)), none, some (xI n2), some (xI n3), none, none, some (xI (n6 + (1 : Int32)))] [] p10.2 else (xgI w a0 7 18).bind fun i22 => some (some (xI i22), w)
set_option maxRecDepth 100000 in
set_option maxHeartbeats 4000000 in
theorem r_X8_where_88 (ev : Nat → xK) (a0 : Nat) (n2 : Int32) (n3 : Int32) (n6 : Int32) (w : xW) : xstp (xca ev 135) 135 (xgo (xca ev 135) 135 (ev 135) 42) 88 [some (xA (some a0)), none, some (xI n2), some (xI n3), none, none, some (xI n6)] [] w = b_X8_where_88 ev a0 n2 n3 n6 w := rfl
theorem e_X8_where_88 (a0 : Nat) (n2 : Int32) (n3 : Int32) (n6 : Int32) (w : xW) : xev 135 88 [some (xA (some a0)), none, some (xI n2), some (xI n3), none, none, some (xI n6)] [] w = b_X8_where_88 xev a0 n2 n3 n6 w := (xev_go 135 42 88 [some (xA (some a0)), none, some (xI n2), some (xI n3), none, none, some (xI n6)] [] w).trans (r_X8_where_88 xev a0 n2 n3 n6 w)
def b_X8_areEqual_0 (ev : Nat → xK) (a0 : Nat) (n1 : Int32) (n2 : Int32) (n3 : Int32) (w : xW) : Option xR := (xgA w a0 7 23).bind fun r1 => r1.bind fun o3 => (xaJ w o3 n2).bind fun j2 => (xgA w a0 7 24).bind fun r4 => r4.bind fun o6 => (xaD w o6 n2).bind fun d5 => (xgA w a0 7 23).bind fun r7 => r7.bind fun o9 => (xaJ w o9 ((24 : Int32) + n3)).bind fun j8 => (xgA w a0 7 24).bind fun r10 => r10.bind fun o12 => (xaD w o12 ((24 : Int32) + n3)).bind fun d11 => (ev 134 0 [some (xI n1), some (xJ j2), none, some (xD d5), none, some (xJ j8), none, some (xD d11), none] [] w).bind fun p13 => xrI p13.1 fun i14 => if i14 = (1 : Int32) then some (some (xI (1 : Int32)), p13.2) else some (some (xI (0 : Int32)), p13.2)
set_option maxRecDepth 100000 in
set_option maxHeartbeats 4000000 in
theorem r_X8_areEqual_0 (ev : Nat → xK) (a0 : Nat) (n1 : Int32) (n2 : Int32) (n3 : Int32) (w : xW) : xstp (xca ev 136) 136 (xgo (xca ev 136) 136 (ev 136) 28) 0 [some (xA (some a0)), some (xI n1), some (xI n2), some (xI n3)] [] w = b_X8_areEqual_0 ev a0 n1 n2 n3 w := rfl
theorem e_X8_areEqual_0 (a0 : Nat) (n1 : Int32) (n2 : Int32) (n3 : Int32) (w : xW) : xev 136 0 [some (xA (some a0)), some (xI n1), some (xI n2), some (xI n3)] [] w = b_X8_areEqual_0 xev a0 n1 n2 n3 w := (xev_go 136 28 0 [some (xA (some a0)), some (xI n1), some (xI n2), some (xI n3)] [] w).trans (r_X8_areEqual_0 xev a0 n1 n2 n3 w)
def b_X8_meet_0 (ev : Nat → xK) (a0 : Nat) (n1 : Int32) (n2 : Int32) (n3 : Int32) (w : xW) : Option xR := (ev 89 0 [some (xI n1)] [] w).bind fun p1 => xrI p1.1 fun i2 => if i2 = 0 then some (some (xI (-1 : Int32)), p1.2) else (ev 89 0 [some (xI n2)] [] p1.2).bind fun p3 => xrI p3.1 fun i4 => if i4 = 0 then some (some (xI (-1 : Int32)), p3.2) else (ev 88 0 [some (xJ n3.toInt64), none, some (xJ (0 : Int64)), none, some (xJ (7 : Int64)), none] [] p3.2).bind fun p5 => xrI p5.1 fun i6 => if i6 = 0 then some (some (xI (-2 : Int32)), p5.2) else (xobj p5.2 a0 7).bind fun _ => (ev 132 0 [some (xA (some a0)), some (xI n1), some (xI n3), some (xI (0 : Int32)), none, none] [] p5.2).bind fun p7 => xrI p7.1 fun i8 => (xput p7.2 a0 7 15 (xI i8)).bind fun w9 => (xgI w9 a0 7 25).bind fun i10 => (xgI w9 a0 7 15).bind fun i11 => if i11 = (4 : Int32) then (xobj w9 a0 7).bind fun _ => (ev 132 0 [some (xA (some a0)), some (xI n2), some (xI n3), some (xI (24 : Int32)), none, none] [] w9).bind fun p12 => xrI p12.1 fun i13 => (xput p12.2 a0 7 15 (xI i13)).bind fun w14 => (xgI w14 a0 7 15).bind fun i15 => if i15 = (4 : Int32) then ev 137 90 [some (xA (some a0)), none, none, some (xI n3), some (xI i10), some (xI (0 : Int32)), some (xI (0 : Int32))] [] w14 else (xgI w14 a0 7 15).bind fun i16 => some (some (xI ((-10 : Int32) - i16)), w14) else (xgI w9 a0 7 15).bind fun i17 => if i17 = (4 : Int32) then ev 137 90 [some (xA (some a0)), none, none, some (xI n3), some (xI i10), some (xI (0 : Int32)), some (xI (0 : Int32))] [] w9 else (xgI w9 a0 7 15).bind fun i18 => some (some (xI ((-10 : Int32) - i18)), w9)
set_option maxRecDepth 100000 in
set_option maxHeartbeats 4000000 in
theorem r_X8_meet_0 (ev : Nat → xK) (a0 : Nat) (n1 : Int32) (n2 : Int32) (n3 : Int32) (w : xW) : xstp (xca ev 137) 137 (xgo (xca ev 137) 137 (ev 137) 43) 0 [some (xA (some a0)), some (xI n1), some (xI n2), some (xI n3), none, none, none] [] w = b_X8_meet_0 ev a0 n1 n2 n3 w := rfl
theorem e_X8_meet_0 (a0 : Nat) (n1 : Int32) (n2 : Int32) (n3 : Int32) (w : xW) : xev 137 0 [some (xA (some a0)), some (xI n1), some (xI n2), some (xI n3), none, none, none] [] w = b_X8_meet_0 xev a0 n1 n2 n3 w := (xev_go 137 43 0 [some (xA (some a0)), some (xI n1), some (xI n2), some (xI n3), none, none, none] [] w).trans (r_X8_meet_0 xev a0 n1 n2 n3 w)
def b_X8_meet_90 (ev : Nat → xK) (a0 : Nat) (n3 : Int32) (n4 : Int32) (n5 : Int32) (n6 : Int32) (w : xW) : Option xR := (xgI w a0 7 25).bind fun i1 => if n6 < n4 * i1 then (xgI w a0 7 25).bind fun i2 => if i2 = 0 then none else (xgI w a0 7 25).bind fun i3 => if i3 = 0 then none else (xobj w a0 7).bind fun _ => (ev 136 0 [some (xA (some a0)), some (xI n3), some (xI (n6 / i2)), some (xI (n6 - n6 / i3 * i3))] [] w).bind fun p4 => xrI p4.1 fun i5 => if i5 = 0 then ev 137 90 [some (xA (some a0)), none, none, some (xI n3), some (xI n4), some (xI (n5 + (0 : Int32))), some (xI (n6 + (1 : Int32)))] [] p4.2 else ev 137 90 [some (xA (some a0)), none, none, some (xI n3), some (xI n4), some (xI (n5 + (1 : Int32))), some (xI (n6 + (1 : Int32)))] [] p4.2 else if (24 : Int32) < n5 then some (some (xI (-4 : Int32)), w) else (xput w a0 7 18 (xI (0 : Int32))).bind fun w6 => ev 137 158 [some (xA (some a0)), none, none, some (xI n3), some (xI n4), none, some (xI (0 : Int32))] [] w6
set_option maxRecDepth 100000 in
set_option maxHeartbeats 4000000 in
theorem r_X8_meet_90 (ev : Nat → xK) (a0 : Nat) (n3 : Int32) (n4 : Int32) (n5 : Int32) (n6 : Int32) (w : xW) : xstp (xca ev 137) 137 (xgo (xca ev 137) 137 (ev 137) 27) 90 [some (xA (some a0)), none, none, some (xI n3), some (xI n4), some (xI n5), some (xI n6)] [] w = b_X8_meet_90 ev a0 n3 n4 n5 n6 w := rfl
theorem e_X8_meet_90 (a0 : Nat) (n3 : Int32) (n4 : Int32) (n5 : Int32) (n6 : Int32) (w : xW) : xev 137 90 [some (xA (some a0)), none, none, some (xI n3), some (xI n4), some (xI n5), some (xI n6)] [] w = b_X8_meet_90 xev a0 n3 n4 n5 n6 w := (xev_go 137 27 90 [some (xA (some a0)), none, none, some (xI n3), some (xI n4), some (xI n5), some (xI n6)] [] w).trans (r_X8_meet_90 xev a0 n3 n4 n5 n6 w)
def b_X8_meet_158 (ev : Nat → xK) (a0 : Nat) (n3 : Int32) (n4 : Int32) (n6 : Int32) (w : xW) : Option xR := (xgI w a0 7 25).bind fun i1 => if n6 < n4 * i1 then (xgI w a0 7 25).bind fun i2 => if i2 = 0 then none else (xgI w a0 7 25).bind fun i3 => if i3 = 0 then none else (xobj w a0 7).bind fun _ => (ev 136 0 [some (xA (some a0)), some (xI n3), some (xI (n6 / i2)), some (xI (n6 - n6 / i3 * i3))] [] w).bind fun p4 => xrI p4.1 fun i5 => if i5 = 0 then ev 137 158 [some (xA (some a0)), none, none, some (xI n3), some (xI n4), none, some (xI (n6 + (1 : Int32)))] [] p4.2 else (xgA p4.2 a0 7 16).bind fun r6 => (xgI p4.2 a0 7 18).bind fun i7 => (xgI p4.2 a0 7 25).bind fun i8 => if i8 = 0 then none else r6.bind fun o10 => (xsI p4.2 o10 i7 (n6 / i8)).bind fun w9 => (xgA w9 a0 7 17).bind fun r11 => (xgI w9 a0 7 18).bind fun i12 => (xgI w9 a0 7 25).bind fun i13 => if i13 = 0 then none else r11.bind fun o15 => (xsI w9 o15 i12 (n6 - n6 / i13 * i13)).bind fun w14 => (xgI w14 a0 7 18).bind fun i16 => (xput w14 a0 7 18 (xI (i16 + (1 : Int32)))).bind fun w17 => ev 137 158 [some (xA (some a0)), none, none, some (xI n3), some (xI n4), none, some (xI (n6 + (1 : Int32)))] [] w17 else (xgI w a0 7 18).bind fun i18 => some (some (xI i18), w)
set_option maxRecDepth 100000 in
set_option maxHeartbeats 4000000 in
theorem r_X8_meet_158 (ev : Nat → xK) (a0 : Nat) (n3 : Int32) (n4 : Int32) (n6 : Int32) (w : xW) : xstp (xca ev 137) 137 (xgo (xca ev 137) 137 (ev 137) 46) 158 [some (xA (some a0)), none, none, some (xI n3), some (xI n4), none, some (xI n6)] [] w = b_X8_meet_158 ev a0 n3 n4 n6 w := rfl
theorem e_X8_meet_158 (a0 : Nat) (n3 : Int32) (n4 : Int32) (n6 : Int32) (w : xW) : xev 137 158 [some (xA (some a0)), none, none, some (xI n3), some (xI n4), none, some (xI n6)] [] w = b_X8_meet_158 xev a0 n3 n4 n6 w := (xev_go 137 46 158 [some (xA (some a0)), none, none, some (xI n3), some (xI n4), none, some (xI n6)] [] w).trans (r_X8_meet_158 xev a0 n3 n4 n6 w)
def b_X8_pair_0 (ev : Nat → xK) (a0 : Nat) (n1 : Int32) (n2 : Int32) (w : xW) : Option xR := (ev 88 0 [some (xJ n2.toInt64), none, some (xJ (0 : Int64)), none, some (xJ (1 : Int64)), none] [] w).bind fun p1 => xrI p1.1 fun i2 => if i2 = 0 then some (some (xI (-2 : Int32)), p1.2) else (xgI p1.2 a0 7 18).bind fun i3 => (ev 88 0 [some (xJ n1.toInt64), none, some (xJ (0 : Int64)), none, some (xJ ((i3 - (1 : Int32)).toInt64)), none] [] p1.2).bind fun p4 => xrI p4.1 fun i5 => if i5 = 0 then some (some (xI (-6 : Int32)), p4.2) else if n2 = 0 then (xgA p4.2 a0 7 16).bind fun r6 => r6.bind fun o8 => (xaI p4.2 o8 n1).bind fun i7 => some (some (xI i7), p4.2) else (xgA p4.2 a0 7 17).bind fun r9 => r9.bind fun o11 => (xaI p4.2 o11 n1).bind fun i10 => some (some (xI i10), p4.2)
set_option maxRecDepth 100000 in
set_option maxHeartbeats 4000000 in
theorem r_X8_pair_0 (ev : Nat → xK) (a0 : Nat) (n1 : Int32) (n2 : Int32) (w : xW) : xstp (xca ev 138) 138 (xgo (xca ev 138) 138 (ev 138) 25) 0 [some (xA (some a0)), some (xI n1), some (xI n2)] [] w = b_X8_pair_0 ev a0 n1 n2 w := rfl
theorem e_X8_pair_0 (a0 : Nat) (n1 : Int32) (n2 : Int32) (w : xW) : xev 138 0 [some (xA (some a0)), some (xI n1), some (xI n2)] [] w = b_X8_pair_0 xev a0 n1 n2 w := (xev_go 138 25 0 [some (xA (some a0)), some (xI n1), some (xI n2)] [] w).trans (r_X8_pair_0 xev a0 n1 n2 w)
end
section
def b_X8_gather_0 (ev : Nat → xK) (a0 : Nat) (n1 : Int32) (n2 : Int32) (n3 : Int32) (w : xW) : Option xR := (ev 89 0 [some (xI n1)] [] w).bind fun p1 => xrI p1.1 fun i2 => if i2 = 0 then some (some (xI (-1 : Int32)), p1.2) else (ev 89 0 [some (xI n3)] [] p1.2).bind fun p3 => xrI p3.1 fun i4 => if i4 = 0 then some (some (xI (-1 : Int32)), p3.2) else (ev 88 0 [some (xJ n2.toInt64), none, some (xJ (0 : Int64)), none, some (xJ (1 : Int64)), none] [] p3.2).bind fun p5 => xrI p5.1 fun i6 => if i6 = 0 then some (some (xI (-2 : Int32)), p5.2) else (xobj p5.2 a0 7).bind fun _ => (ev 91 0 [some (xA (some a0)), some (xI n1)] [] p5.2).bind fun p7 => xrI p7.1 fun i8 => if i8 = 0 then (xgA p7.2 a0 7 5).bind fun r9 => r9.bind fun o11 => (xaI p7.2 o11 n1).bind fun i10 => ev 139 54 [some (xA (some a0)), none, some (xI n2), some (xI n3), some (xI i10), some (xI (0 : Int32)), none] [] p7.2 else (xobj p7.2 a0 7).bind fun _ => (ev 91 0 [some (xA (some a0)), some (xI n1)] [] p7.2).bind fun p12 => xrI p12.1 fun i13 => some (some (xI i13), p12.2)
set_option maxRecDepth 100000 in
set_option maxHeartbeats 4000000 in
theorem r_X8_gather_0 (ev : Nat → xK) (a0 : Nat) (n1 : Int32) (n2 : Int32) (n3 : Int32) (w : xW) : xstp (xca ev 139) 139 (xgo (xca ev 139) 139 (ev 139) 25) 0 [some (xA (some a0)), some (xI n1), some (xI n2), some (xI n3), none, none, none] [] w = b_X8_gather_0 ev a0 n1 n2 n3 w := rfl
theorem e_X8_gather_0 (a0 : Nat) (n1 : Int32) (n2 : Int32) (n3 : Int32) (w : xW) : xev 139 0 [some (xA (some a0)), some (xI n1), some (xI n2), some (xI n3), none, none, none] [] w = b_X8_gather_0 xev a0 n1 n2 n3 w := (xev_go 139 25 0 [some (xA (some a0)), some (xI n1), some (xI n2), some (xI n3), none, none, none] [] w).trans (r_X8_gather_0 xev a0 n1 n2 n3 w)
def b_X8_gather_54 (ev : Nat → xK) (a0 : Nat) (n2 : Int32) (n3 : Int32) (n4 : Int32) (n5 : Int32) (w : xW) : Option xR := (xgI w a0 7 18).bind fun i1 => if n5 < i1 then if n2 = 0 then (xgA w a0 7 16).bind fun r2 => r2.bind fun o4 => (xaI w o4 n5).bind fun i3 => (xgA w a0 7 1).bind fun r5 => r5.bind fun o7 => (xaI w o7 n4).bind fun i6 => if i3 < i6 then ev 139 54 [some (xA (some a0)), none, some (xI n2), some (xI n3), some (xI n4), some (xI (n5 + (1 : Int32))), none] [] w else some (some (xI (4 : Int32)), w) else (xgA w a0 7 17).bind fun r8 => r8.bind fun o10 => (xaI w o10 n5).bind fun i9 => (xgA w a0 7 1).bind fun r11 => r11.bind fun o13 => (xaI w o13 n4).bind fun i12 => if i9 < i12 then ev 139 54 [some (xA (some a0)), none, some (xI n2), some (xI n3), some (xI n4), some (xI (n5 + (1 : Int32))), none] [] w else some (some (xI (4 : Int32)), w) else (xobj w a0 7).bind fun _ => (ev 92 0 [some (xA (some a0)), some (xI (-6 : Int32)), none, none, none, none] [] w).bind fun p14 => xrI p14.1 fun i15 => (xgA p14.2 a0 7 0).bind fun r16 => r16.bind fun o18 => (xaI p14.2 o18 n4).bind fun i17 => (xgI p14.2 a0 7 18).bind fun i19 => (xobj p14.2 a0 7).bind fun _ => (ev 93 0 [some (xA (some a0)), some (xI i15), some (xI i17), some (xI i19), none] [] p14.2).bind fun p20 => xrV p20.1 (ev 139 130 [some (xA (some a0)), none, some (xI n2), some (xI n3), some (xI n4), some (xI i15), some (xI (0 : Int32))] [] p20.2)
set_option maxRecDepth 100000 in
set_option maxHeartbeats 4000000 in
theorem r_X8_gather_54 (ev : Nat → xK) (a0 : Nat) (n2 : Int32) (n3 : Int32) (n4 : Int32) (n5 : Int32) (w : xW) : xstp (xca ev 139) 139 (xgo (xca ev 139) 139 (ev 139) 21) 54 [some (xA (some a0)), none, some (xI n2), some (xI n3), some (xI n4), some (xI n5), none] [] w = b_X8_gather_54 ev a0 n2 n3 n4 n5 w := rfl
theorem e_X8_gather_54 (a0 : Nat) (n2 : Int32) (n3 : Int32) (n4 : Int32) (n5 : Int32) (w : xW) : xev 139 54 [some (xA (some a0)), none, some (xI n2), some (xI n3), some (xI n4), some (xI n5), none] [] w = b_X8_gather_54 xev a0 n2 n3 n4 n5 w := (xev_go 139 21 54 [some (xA (some a0)), none, some (xI n2), some (xI n3), some (xI n4), some (xI n5), none] [] w).trans (r_X8_gather_54 xev a0 n2 n3 n4 n5 w)
def b_X8_gather_130 (ev : Nat → xK) (a0 : Nat) (n2 : Int32) (n3 : Int32) (n4 : Int32) (n5 : Int32) (n6 : Int32) (w : xW) : Option xR := (xgI w a0 7 18).bind fun i1 => if n6 < i1 then if n2 = 0 then (xgA w a0 7 16).bind fun r2 => r2.bind fun o4 => (xaI w o4 n6).bind fun i3 => (xobj w a0 7).bind fun _ => (ev 95 0 [some (xA (some a0)), some (xI (((24 : Int32) * n4) + i3)), some (xI (((24 : Int32) * n5) + n6))] [] w).bind fun p5 => xrV p5.1 (ev 139 130 [some (xA (some a0)), none, some (xI n2), some (xI n3), some (xI n4), some (xI n5), some (xI (n6 + (1 : Int32)))] [] p5.2) else (xgA w a0 7 17).bind fun r6 => r6.bind fun o8 => (xaI w o8 n6).bind fun i7 => (xobj w a0 7).bind fun _ => (ev 95 0 [some (xA (some a0)), some (xI (((24 : Int32) * n4) + i7)), some (xI (((24 : Int32) * n5) + n6))] [] w).bind fun p9 => xrV p9.1 (ev 139 130 [some (xA (some a0)), none, some (xI n2), some (xI n3), some (xI n4), some (xI n5), some (xI (n6 + (1 : Int32)))] [] p9.2) else (xgA w a0 7 5).bind fun r10 => r10.bind fun o12 => (xsI w o12 n3 n5).bind fun w11 => some (some (xI (0 : Int32)), w11)
set_option maxRecDepth 100000 in
set_option maxHeartbeats 4000000 in
theorem r_X8_gather_130 (ev : Nat → xK) (a0 : Nat) (n2 : Int32) (n3 : Int32) (n4 : Int32) (n5 : Int32) (n6 : Int32) (w : xW) : xstp (xca ev 139) 139 (xgo (xca ev 139) 139 (ev 139) 26) 130 [some (xA (some a0)), none, some (xI n2), some (xI n3), some (xI n4), some (xI n5), some (xI n6)] [] w = b_X8_gather_130 ev a0 n2 n3 n4 n5 n6 w := rfl
theorem e_X8_gather_130 (a0 : Nat) (n2 : Int32) (n3 : Int32) (n4 : Int32) (n5 : Int32) (n6 : Int32) (w : xW) : xev 139 130 [some (xA (some a0)), none, some (xI n2), some (xI n3), some (xI n4), some (xI n5), some (xI n6)] [] w = b_X8_gather_130 xev a0 n2 n3 n4 n5 n6 w := (xev_go 139 26 130 [some (xA (some a0)), none, some (xI n2), some (xI n3), some (xI n4), some (xI n5), some (xI n6)] [] w).trans (r_X8_gather_130 xev a0 n2 n3 n4 n5 n6 w)
def b_X8_firstWith_0 (ev : Nat → xK) (a0 : Nat) (n1 : Int32) (w : xW) : Option xR := ev 140 2 [some (xA (some a0)), some (xI n1), some (xI (0 : Int32))] [] w
set_option maxRecDepth 100000 in
set_option maxHeartbeats 4000000 in
theorem r_X8_firstWith_0 (ev : Nat → xK) (a0 : Nat) (n1 : Int32) (w : xW) : xstp (xca ev 140) 140 (xgo (xca ev 140) 140 (ev 140) 4) 0 [some (xA (some a0)), some (xI n1), none] [] w = b_X8_firstWith_0 ev a0 n1 w := rfl
theorem e_X8_firstWith_0 (a0 : Nat) (n1 : Int32) (w : xW) : xev 140 0 [some (xA (some a0)), some (xI n1), none] [] w = b_X8_firstWith_0 xev a0 n1 w := (xev_go 140 4 0 [some (xA (some a0)), some (xI n1), none] [] w).trans (r_X8_firstWith_0 xev a0 n1 w)
def b_X8_firstWith_2 (ev : Nat → xK) (a0 : Nat) (n1 : Int32) (n2 : Int32) (w : xW) : Option xR := (xgA w a0 7 5).bind fun r1 => r1.bind fun o3 => (xaI w o3 n2).bind fun i2 => (xgA w a0 7 5).bind fun r4 => r4.bind fun o6 => (xaI w o6 n1).bind fun i5 => if i2 = i5 then some (some (xI n2), w) else ev 140 2 [some (xA (some a0)), some (xI n1), some (xI (n2 + (1 : Int32)))] [] w
set_option maxRecDepth 100000 in
set_option maxHeartbeats 4000000 in
theorem r_X8_firstWith_2 (ev : Nat → xK) (a0 : Nat) (n1 : Int32) (n2 : Int32) (w : xW) : xstp (xca ev 140) 140 (xgo (xca ev 140) 140 (ev 140) 13) 2 [some (xA (some a0)), some (xI n1), some (xI n2)] [] w = b_X8_firstWith_2 ev a0 n1 n2 w := rfl
theorem e_X8_firstWith_2 (a0 : Nat) (n1 : Int32) (n2 : Int32) (w : xW) : xev 140 2 [some (xA (some a0)), some (xI n1), some (xI n2)] [] w = b_X8_firstWith_2 xev a0 n1 n2 w := (xev_go 140 13 2 [some (xA (some a0)), some (xI n1), some (xI n2)] [] w).trans (r_X8_firstWith_2 xev a0 n1 n2 w)
def b_X8_image_0 (ev : Nat → xK) (a0 : Nat) (n1 : Int32) (w : xW) : Option xR := (ev 88 0 [some (xJ n1.toInt64), none, some (xJ (0 : Int64)), none, some (xJ (1 : Int64)), none] [] w).bind fun p1 => xrI p1.1 fun i2 => if i2 = 0 then some (some (xI (-2 : Int32)), p1.2) else ev 141 15 [some (xA (some a0)), some (xI n1), some (xI (0 : Int32)), none, none, none] [] p1.2
set_option maxRecDepth 100000 in
set_option maxHeartbeats 4000000 in
theorem r_X8_image_0 (ev : Nat → xK) (a0 : Nat) (n1 : Int32) (w : xW) : xstp (xca ev 141) 141 (xgo (xca ev 141) 141 (ev 141) 10) 0 [some (xA (some a0)), some (xI n1), none, none, none, none] [] w = b_X8_image_0 ev a0 n1 w := rfl
theorem e_X8_image_0 (a0 : Nat) (n1 : Int32) (w : xW) : xev 141 0 [some (xA (some a0)), some (xI n1), none, none, none, none] [] w = b_X8_image_0 xev a0 n1 w := (xev_go 141 10 0 [some (xA (some a0)), some (xI n1), none, none, none, none] [] w).trans (r_X8_image_0 xev a0 n1 w)
def b_X8_image_15 (ev : Nat → xK) (a0 : Nat) (n1 : Int32) (n2 : Int32) (w : xW) : Option xR := if n2 < (10 : Int32) then (xgA w a0 7 27).bind fun r1 => (xgA w a0 7 5).bind fun r2 => r2.bind fun o4 => (xaI w o4 n2).bind fun i3 => r1.bind fun o6 => (xsI w o6 (((10 : Int32) * n1) + n2) i3).bind fun w5 => (xgA w5 a0 7 28).bind fun r7 => (xobj w5 a0 7).bind fun _ => (ev 90 0 [some (xA (some a0)), some (xI n2)] [] w5).bind fun p8 => xrI p8.1 fun i9 => if i9 = 0 then r7.bind fun o11 => (xsI p8.2 o11 (((10 : Int32) * n1) + n2) (-6 : Int32)).bind fun w10 => (xobj w10 a0 7).bind fun _ => (ev 90 0 [some (xA (some a0)), some (xI n2)] [] w10).bind fun p12 => xrI p12.1 fun i13 => if i13 = 0 then ev 141 15 [some (xA (some a0)), some (xI n1), some (xI (n2 + (1 : Int32))), none, none, none] [] p12.2 else (xgA p12.2 a0 7 29).bind fun r14 => (xgA p12.2 a0 7 0).bind fun r15 => (xgA p12.2 a0 7 5).bind fun r16 => r16.bind fun o18 => (xaI p12.2 o18 n2).bind fun i17 => r15.bind fun o20 => (xaI p12.2 o20 i17).bind fun i19 => r14.bind fun o22 => (xsI p12.2 o22 (((10 : Int32) * n1) + n2) i19).bind fun w21 => (xgA w21 a0 7 30).bind fun r23 => (xgA w21 a0 7 1).bind fun r24 => (xgA w21 a0 7 5).bind fun r25 => r25.bind fun o27 => (xaI w21 o27 n2).bind fun i26 => r24.bind fun o29 => (xaI w21 o29 i26).bind fun i28 => r23.bind fun o31 => (xsI w21 o31 (((10 : Int32) * n1) + n2) i28).bind fun w30 => ev 141 109 [some (xA (some a0)), some (xI n1), some (xI n2), some (xI (((10 : Int32) * n1) + n2)), some (xI (0 : Int32)), none] [] w30 else (xobj p8.2 a0 7).bind fun _ => (ev 140 0 [some (xA (some a0)), some (xI n2), none] [] p8.2).bind fun p32 => xrI p32.1 fun i33 => r7.bind fun o35 => (xsI p32.2 o35 (((10 : Int32) * n1) + n2) i33).bind fun w34 => (xobj w34 a0 7).bind fun _ => (ev 90 0 [some (xA (some a0)), some (xI n2)] [] w34).bind fun p36 => xrI p36.1 fun i37 => if i37 = 0 then ev 141 15 [some (xA (some a0)), some (xI n1), some (xI (n2 + (1 : Int32))), none, none, none] [] p36.2 else (xgA p36.2 a0 7 29).bind fun r38 => (xgA p36.2 a0 7 0).bind fun r39 => (xgA p36.2 a0 7 5).bind fun r40 => r40.bind fun o42 => (xaI p36.2 o42 n2).bind fun i41 => r39.bind fun o44 => (xaI p36.2 o44 i41).bind fun i43 => r38.bind fun o46 => (xsI p36.2 o46 (((10 : Int32) * n1) + n2) i43).bind fun w45 => (xgA w45 a0 7 30).bind fun r47 => (xgA w45 a0 7 1).bind fun r48 => (xgA w45 a0 7 5).bind fun r49 => r49.bind fun o51 => (xaI w45 o51 n2).bind fun i50 => r48.bind fun o53 => (xaI w45 o53 i50).bind fun i52 => r47.bind fun o55 => (xsI w45 o55 (((10 : Int32) * n1) + n2) i52).bind fun w54 => ev 141 109 [some (xA (some a0)), some (xI n1), some (xI n2), some (xI (((10 : Int32) * n1) + n2)), some (xI (0 : Int32)), none] [] w54 else (xgA w a0 7 26).bind fun r56 => r56.bind fun o58 => (xsZ w o58 n1 (1 : Int32)).bind fun w57 => some (some (xI (1 : Int32)), w57)
set_option maxRecDepth 100000 in
set_option maxHeartbeats 4000000 in
theorem r_X8_image_15 (ev : Nat → xK) (a0 : Nat) (n1 : Int32) (n2 : Int32) (w : xW) : xstp (xca ev 141) 141 (xgo (xca ev 141) 141 (ev 141) 59) 15 [some (xA (some a0)), some (xI n1), some (xI n2), none, none, none] [] w = b_X8_image_15 ev a0 n1 n2 w := rfl
theorem e_X8_image_15 (a0 : Nat) (n1 : Int32) (n2 : Int32) (w : xW) : xev 141 15 [some (xA (some a0)), some (xI n1), some (xI n2), none, none, none] [] w = b_X8_image_15 xev a0 n1 n2 w := (xev_go 141 59 15 [some (xA (some a0)), some (xI n1), some (xI n2), none, none, none] [] w).trans (r_X8_image_15 xev a0 n1 n2 w)
def b_X8_image_109 (ev : Nat → xK) (a0 : Nat) (n1 : Int32) (n2 : Int32) (n3 : Int32) (n4 : Int32) (w : xW) : Option xR := if n4 < (24 : Int32) then (xgA w a0 7 5).bind fun r1 => r1.bind fun o3 => (xaI w o3 n2).bind fun i2 => (xgA w a0 7 31).bind fun r4 => (xgA w a0 7 2).bind fun r5 => r5.bind fun o7 => (xaI w o7 (((24 : Int32) * i2) + n4)).bind fun i6 => r4.bind fun o9 => (xsI w o9 (((24 : Int32) * n3) + n4) i6).bind fun w8 => (xgA w8 a0 7 32).bind fun r10 => (xgA w8 a0 7 3).bind fun r11 => r11.bind fun o13 => (xaJ w8 o13 (((24 : Int32) * i2) + n4)).bind fun j12 => r10.bind fun o15 => (xsJ w8 o15 (((24 : Int32) * n3) + n4) j12).bind fun w14 => (xgA w14 a0 7 33).bind fun r16 => (xgA w14 a0 7 4).bind fun r17 => r17.bind fun o19 => (xaD w14 o19 (((24 : Int32) * i2) + n4)).bind fun d18 => r16.bind fun o21 => (xsD w14 o21 (((24 : Int32) * n3) + n4) d18).bind fun w20 => ev 141 109 [some (xA (some a0)), some (xI n1), some (xI n2), some (xI n3), some (xI (n4 + (1 : Int32))), none] [] w20 else ev 141 15 [some (xA (some a0)), some (xI n1), some (xI (n2 + (1 : Int32))), none, none, none] [] w
set_option maxRecDepth 100000 in
set_option maxHeartbeats 4000000 in
theorem r_X8_image_109 (ev : Nat → xK) (a0 : Nat) (n1 : Int32) (n2 : Int32) (n3 : Int32) (n4 : Int32) (w : xW) : xstp (xca ev 141) 141 (xgo (xca ev 141) 141 (ev 141) 52) 109 [some (xA (some a0)), some (xI n1), some (xI n2), some (xI n3), some (xI n4), none] [] w = b_X8_image_109 ev a0 n1 n2 n3 n4 w := rfl
theorem e_X8_image_109 (a0 : Nat) (n1 : Int32) (n2 : Int32) (n3 : Int32) (n4 : Int32) (w : xW) : xev 141 109 [some (xA (some a0)), some (xI n1), some (xI n2), some (xI n3), some (xI n4), none] [] w = b_X8_image_109 xev a0 n1 n2 n3 n4 w := (xev_go 141 52 109 [some (xA (some a0)), some (xI n1), some (xI n2), some (xI n3), some (xI n4), none] [] w).trans (r_X8_image_109 xev a0 n1 n2 n3 n4 w)
def b_X8_restore_0 (ev : Nat → xK) (a0 : Nat) (n1 : Int32) (w : xW) : Option xR := (ev 88 0 [some (xJ n1.toInt64), none, some (xJ (0 : Int64)), none, some (xJ (1 : Int64)), none] [] w).bind fun p1 => xrI p1.1 fun i2 => if i2 = 0 then some (some (xI (-2 : Int32)), p1.2) else (xgA p1.2 a0 7 26).bind fun r3 => r3.bind fun o5 => (xaZ p1.2 o5 n1).bind fun i4 => if i4 = 0 then some (some (xI (-3 : Int32)), p1.2) else ev 142 27 [some (xA (some a0)), some (xI n1), some (xI (0 : Int32)), none, none, none] [] p1.2
set_option maxRecDepth 100000 in
set_option maxHeartbeats 4000000 in
theorem r_X8_restore_0 (ev : Nat → xK) (a0 : Nat) (n1 : Int32) (w : xW) : xstp (xca ev 142) 142 (xgo (xca ev 142) 142 (ev 142) 15) 0 [some (xA (some a0)), some (xI n1), none, none, none, none] [] w = b_X8_restore_0 ev a0 n1 w := rfl
theorem e_X8_restore_0 (a0 : Nat) (n1 : Int32) (w : xW) : xev 142 0 [some (xA (some a0)), some (xI n1), none, none, none, none] [] w = b_X8_restore_0 xev a0 n1 w := (xev_go 142 15 0 [some (xA (some a0)), some (xI n1), none, none, none, none] [] w).trans (r_X8_restore_0 xev a0 n1 w)
def b_X8_restore_27 (ev : Nat → xK) (a0 : Nat) (n1 : Int32) (n2 : Int32) (w : xW) : Option xR := if n2 < (10 : Int32) then (xgA w a0 7 5).bind fun r1 => r1.bind fun o3 => (xsI w o3 n2 (-1 : Int32)).bind fun w2 => ev 142 27 [some (xA (some a0)), some (xI n1), some (xI (n2 + (1 : Int32))), none, none, none] [] w2 else ev 142 48 [some (xA (some a0)), some (xI n1), some (xI (0 : Int32)), none, none, none] [] w
set_option maxRecDepth 100000 in
set_option maxHeartbeats 4000000 in
theorem r_X8_restore_27 (ev : Nat → xK) (a0 : Nat) (n1 : Int32) (n2 : Int32) (w : xW) : xstp (xca ev 142) 142 (xgo (xca ev 142) 142 (ev 142) 12) 27 [some (xA (some a0)), some (xI n1), some (xI n2), none, none, none] [] w = b_X8_restore_27 ev a0 n1 n2 w := rfl
theorem e_X8_restore_27 (a0 : Nat) (n1 : Int32) (n2 : Int32) (w : xW) : xev 142 27 [some (xA (some a0)), some (xI n1), some (xI n2), none, none, none] [] w = b_X8_restore_27 xev a0 n1 n2 w := (xev_go 142 12 27 [some (xA (some a0)), some (xI n1), some (xI n2), none, none, none] [] w).trans (r_X8_restore_27 xev a0 n1 n2 w)
def b_X8_restore_48 (ev : Nat → xK) (a0 : Nat) (n1 : Int32) (n2 : Int32) (w : xW) : Option xR := if n2 < (10 : Int32) then (xgA w a0 7 28).bind fun r1 => r1.bind fun o3 => (xaI w o3 (((10 : Int32) * n1) + n2)).bind fun i2 => if i2 < 0 then (xgA w a0 7 5).bind fun r4 => (xgA w a0 7 27).bind fun r5 => r5.bind fun o7 => (xaI w o7 (((10 : Int32) * n1) + n2)).bind fun i6 => r4.bind fun o9 => (xsI w o9 n2 i6).bind fun w8 => ev 142 48 [some (xA (some a0)), some (xI n1), some (xI (n2 + (1 : Int32))), none, none, none] [] w8 else (xgA w a0 7 28).bind fun r10 => r10.bind fun o12 => (xaI w o12 (((10 : Int32) * n1) + n2)).bind fun i11 => if i11 < n2 then (xgA w a0 7 5).bind fun r13 => (xgA w a0 7 5).bind fun r14 => (xgA w a0 7 28).bind fun r15 => r15.bind fun o17 => (xaI w o17 (((10 : Int32) * n1) + n2)).bind fun i16 => r14.bind fun o19 => (xaI w o19 i16).bind fun i18 => r13.bind fun o21 => (xsI w o21 n2 i18).bind fun w20 => ev 142 48 [some (xA (some a0)), some (xI n1), some (xI (n2 + (1 : Int32))), none, none, none] [] w20 else (xobj w a0 7).bind fun _ => (ev 92 0 [some (xA (some a0)), some (xI (-6 : Int32)), none, none, none, none] [] w).bind fun p22 => xrI p22.1 fun i23 => (xgA p22.2 a0 7 29).bind fun r24 => r24.bind fun o26 => (xaI p22.2 o26 (((10 : Int32) * n1) + n2)).bind fun i25 => (xgA p22.2 a0 7 30).bind fun r27 => r27.bind fun o29 => (xaI p22.2 o29 (((10 : Int32) * n1) + n2)).bind fun i28 => (xobj p22.2 a0 7).bind fun _ => (ev 93 0 [some (xA (some a0)), some (xI i23), some (xI i25), some (xI i28), none] [] p22.2).bind fun p30 => xrV p30.1 (ev 142 144 [some (xA (some a0)), some (xI n1), some (xI n2), some (xI (((10 : Int32) * n1) + n2)), some (xI i23), some (xI (0 : Int32))] [] p30.2) else some (some (xI (1 : Int32)), w)
set_option maxRecDepth 100000 in
set_option maxHeartbeats 4000000 in
theorem r_X8_restore_48 (ev : Nat → xK) (a0 : Nat) (n1 : Int32) (n2 : Int32) (w : xW) : xstp (xca ev 142) 142 (xgo (xca ev 142) 142 (ev 142) 39) 48 [some (xA (some a0)), some (xI n1), some (xI n2), none, none, none] [] w = b_X8_restore_48 ev a0 n1 n2 w := rfl
theorem e_X8_restore_48 (a0 : Nat) (n1 : Int32) (n2 : Int32) (w : xW) : xev 142 48 [some (xA (some a0)), some (xI n1), some (xI n2), none, none, none] [] w = b_X8_restore_48 xev a0 n1 n2 w := (xev_go 142 39 48 [some (xA (some a0)), some (xI n1), some (xI n2), none, none, none] [] w).trans (r_X8_restore_48 xev a0 n1 n2 w)
def b_X8_restore_144 (ev : Nat → xK) (a0 : Nat) (n1 : Int32) (n2 : Int32) (n3 : Int32) (n4 : Int32) (n5 : Int32) (w : xW) : Option xR := (xgA w a0 7 30).bind fun r1 => r1.bind fun o3 => (xaI w o3 n3).bind fun i2 => if n5 < i2 then (xgA w a0 7 31).bind fun r4 => r4.bind fun o6 => (xaI w o6 (((24 : Int32) * n3) + n5)).bind fun i5 => (xgA w a0 7 32).bind fun r7 => r7.bind fun o9 => (xaJ w o9 (((24 : Int32) * n3) + n5)).bind fun j8 => (xgA w a0 7 33).bind fun r10 => r10.bind fun o12 => (xaD w o12 (((24 : Int32) * n3) + n5)).bind fun d11 => (xobj w a0 7).bind fun _ => (ev 94 0 [some (xA (some a0)), some (xI (((24 : Int32) * n4) + n5)), some (xI i5), some (xJ j8), none, some (xD d11), none] [] w).bind fun p13 => xrV p13.1 (ev 142 144 [some (xA (some a0)), some (xI n1), some (xI n2), some (xI n3), some (xI n4), some (xI (n5 + (1 : Int32)))] [] p13.2) else (xgA w a0 7 5).bind fun r14 => r14.bind fun o16 => (xsI w o16 n2 n4).bind fun w15 => ev 142 48 [some (xA (some a0)), some (xI n1), some (xI (n2 + (1 : Int32))), none, none, none] [] w15
set_option maxRecDepth 100000 in
set_option maxHeartbeats 4000000 in
theorem r_X8_restore_144 (ev : Nat → xK) (a0 : Nat) (n1 : Int32) (n2 : Int32) (n3 : Int32) (n4 : Int32) (n5 : Int32) (w : xW) : xstp (xca ev 142) 142 (xgo (xca ev 142) 142 (ev 142) 41) 144 [some (xA (some a0)), some (xI n1), some (xI n2), some (xI n3), some (xI n4), some (xI n5)] [] w = b_X8_restore_144 ev a0 n1 n2 n3 n4 n5 w := rfl
theorem e_X8_restore_144 (a0 : Nat) (n1 : Int32) (n2 : Int32) (n3 : Int32) (n4 : Int32) (n5 : Int32) (w : xW) : xev 142 144 [some (xA (some a0)), some (xI n1), some (xI n2), some (xI n3), some (xI n4), some (xI n5)] [] w = b_X8_restore_144 xev a0 n1 n2 n3 n4 n5 w := (xev_go 142 41 144 [some (xA (some a0)), some (xI n1), some (xI n2), some (xI n3), some (xI n4), some (xI n5)] [] w).trans (r_X8_restore_144 xev a0 n1 n2 n3 n4 n5 w)
def b_X8_met_0 (ev : Nat → xK) (a0 : Nat) (n1 : Int32) (n2 : Int32) (w : xW) : Option xR := (ev 88 0 [some (xJ n1.toInt64), none, some (xJ (0 : Int64)), none, some (xJ (18 : Int64)), none] [] w).bind fun p1 => xrI p1.1 fun i2 => if i2 = 0 then some (some (xI (-2 : Int32)), p1.2) else (ev 88 0 [some (xJ n2.toInt64), none, some (xJ (0 : Int64)), none, some (xJ (5 : Int64)), none] [] p1.2).bind fun p3 => xrI p3.1 fun i4 => if i4 = 0 then some (some (xI (-2 : Int32)), p3.2) else (xgA p3.2 a0 7 14).bind fun r5 => r5.bind fun o7 => (xaI p3.2 o7 (((6 : Int32) * n1) + n2)).bind fun i6 => some (some (xI i6), p3.2)
set_option maxRecDepth 100000 in
set_option maxHeartbeats 4000000 in
theorem r_X8_met_0 (ev : Nat → xK) (a0 : Nat) (n1 : Int32) (n2 : Int32) (w : xW) : xstp (xca ev 143) 143 (xgo (xca ev 143) 143 (ev 143) 23) 0 [some (xA (some a0)), some (xI n1), some (xI n2)] [] w = b_X8_met_0 ev a0 n1 n2 w := rfl
theorem e_X8_met_0 (a0 : Nat) (n1 : Int32) (n2 : Int32) (w : xW) : xev 143 0 [some (xA (some a0)), some (xI n1), some (xI n2)] [] w = b_X8_met_0 xev a0 n1 n2 w := (xev_go 143 23 0 [some (xA (some a0)), some (xI n1), some (xI n2)] [] w).trans (r_X8_met_0 xev a0 n1 n2 w)
def b_X8_unlike_0 (ev : Nat → xK) (a0 : Nat) (w : xW) : Option xR := ev 144 4 [some (xA (some a0)), some (xI (0 : Int32)), some (xI (0 : Int32))] [] w
set_option maxRecDepth 100000 in
set_option maxHeartbeats 4000000 in
theorem r_X8_unlike_0 (ev : Nat → xK) (a0 : Nat) (w : xW) : xstp (xca ev 144) 144 (xgo (xca ev 144) 144 (ev 144) 6) 0 [some (xA (some a0)), none, none] [] w = b_X8_unlike_0 ev a0 w := rfl
theorem e_X8_unlike_0 (a0 : Nat) (w : xW) : xev 144 0 [some (xA (some a0)), none, none] [] w = b_X8_unlike_0 xev a0 w := (xev_go 144 6 0 [some (xA (some a0)), none, none] [] w).trans (r_X8_unlike_0 xev a0 w)
def b_X8_unlike_4 (ev : Nat → xK) (a0 : Nat) (n1 : Int32) (n2 : Int32) (w : xW) : Option xR := if n2 < (114 : Int32) then (xgA w a0 7 14).bind fun r1 => r1.bind fun o3 => (xaI w o3 n2).bind fun i2 => if 0 < i2 then ev 144 4 [some (xA (some a0)), some (xI (n1 + (1 : Int32))), some (xI (n2 + (1 : Int32)))] [] w else ev 144 4 [some (xA (some a0)), some (xI (n1 + (0 : Int32))), some (xI (n2 + (1 : Int32)))] [] w else some (some (xI n1), w)
set_option maxRecDepth 100000 in
set_option maxHeartbeats 4000000 in
theorem r_X8_unlike_4 (ev : Nat → xK) (a0 : Nat) (n1 : Int32) (n2 : Int32) (w : xW) : xstp (xca ev 144) 144 (xgo (xca ev 144) 144 (ev 144) 17) 4 [some (xA (some a0)), some (xI n1), some (xI n2)] [] w = b_X8_unlike_4 ev a0 n1 n2 w := rfl
theorem e_X8_unlike_4 (a0 : Nat) (n1 : Int32) (n2 : Int32) (w : xW) : xev 144 4 [some (xA (some a0)), some (xI n1), some (xI n2)] [] w = b_X8_unlike_4 xev a0 n1 n2 w := (xev_go 144 17 4 [some (xA (some a0)), some (xI n1), some (xI n2)] [] w).trans (r_X8_unlike_4 xev a0 n1 n2 w)
def b_X8_hung_0 (ev : Nat → xK) (a0 : Nat) (n1 : Int32) (w : xW) : Option xR := (xobj w a0 7).bind fun _ => (ev 90 0 [some (xA (some a0)), some (xI n1)] [] w).bind fun p1 => xrI p1.1 fun i2 => if i2 = 0 then (xgA p1.2 a0 7 5).bind fun r3 => r3.bind fun o5 => (xaI p1.2 o5 n1).bind fun i4 => if i4 = (-1 : Int32) then some (some (xI (15 : Int32)), p1.2) else (xgA p1.2 a0 7 5).bind fun r6 => r6.bind fun o8 => (xaI p1.2 o8 n1).bind fun i7 => if i7 < (1000 : Int32) then some (some (xI (14 : Int32)), p1.2) else some (some (xI (13 : Int32)), p1.2) else (xgA p1.2 a0 7 0).bind fun r9 => (xgA p1.2 a0 7 5).bind fun r10 => r10.bind fun o12 => (xaI p1.2 o12 n1).bind fun i11 => r9.bind fun o14 => (xaI p1.2 o14 i11).bind fun i13 => some (some (xI i13), p1.2)
set_option maxRecDepth 100000 in
set_option maxHeartbeats 4000000 in
theorem r_X8_hung_0 (ev : Nat → xK) (a0 : Nat) (n1 : Int32) (w : xW) : xstp (xca ev 145) 145 (xgo (xca ev 145) 145 (ev 145) 20) 0 [some (xA (some a0)), some (xI n1)] [] w = b_X8_hung_0 ev a0 n1 w := rfl
theorem e_X8_hung_0 (a0 : Nat) (n1 : Int32) (w : xW) : xev 145 0 [some (xA (some a0)), some (xI n1)] [] w = b_X8_hung_0 xev a0 n1 w := (xev_go 145 20 0 [some (xA (some a0)), some (xI n1)] [] w).trans (r_X8_hung_0 xev a0 n1 w)
def b_X8_count_0 (ev : Nat → xK) (a0 : Nat) (n1 : Int32) (w : xW) : Option xR := if n1 = Int32.ofInt 0 then (xgI w a0 7 15).bind fun i1 => some (some (xI i1), w) else if n1 = Int32.ofInt 1 then (xgI w a0 7 18).bind fun i2 => some (some (xI i2), w) else if n1 = Int32.ofInt 2 then (xgI w a0 7 6).bind fun i3 => if i3 < 0 then some (some (xI (-6 : Int32)), w) else (xgA w a0 7 1).bind fun r4 => (xgI w a0 7 6).bind fun i5 => r4.bind fun o7 => (xaI w o7 i5).bind fun i6 => some (some (xI i6), w) else if n1 = Int32.ofInt 3 then (xgI w a0 7 6).bind fun i8 => if i8 < 0 then some (some (xI (-6 : Int32)), w) else (xgA w a0 7 0).bind fun r9 => (xgI w a0 7 6).bind fun i10 => r9.bind fun o12 => (xaI w o12 i10).bind fun i11 => some (some (xI i11), w) else if n1 = Int32.ofInt 4 then (xgI w a0 7 13).bind fun i13 => some (some (xI i13), w) else if n1 = Int32.ofInt 5 then (xobj w a0 7).bind fun _ => (ev 144 0 [some (xA (some a0)), none, none] [] w).bind fun p14 => xrI p14.1 fun i15 => some (some (xI i15), p14.2) else (ev 88 0 [some (xJ n1.toInt64), none, some (xJ (10 : Int64)), none, some (xJ (19 : Int64)), none] [] w).bind fun p16 => xrI p16.1 fun i17 => if i17 = 0 then some (some (xI (-2 : Int32)), p16.2) else (xobj p16.2 a0 7).bind fun _ => (ev 145 0 [some (xA (some a0)), some (xI (n1 - (10 : Int32)))] [] p16.2).bind fun p18 => xrI p18.1 fun i19 => some (some (xI i19), p18.2)
set_option maxRecDepth 100000 in
set_option maxHeartbeats 4000000 in
theorem r_X8_count_0 (ev : Nat → xK) (a0 : Nat) (n1 : Int32) (w : xW) : xstp (xca ev 146) 146 (xgo (xca ev 146) 146 (ev 146) 16) 0 [some (xA (some a0)), some (xI n1)] [] w = b_X8_count_0 ev a0 n1 w := rfl
theorem e_X8_count_0 (a0 : Nat) (n1 : Int32) (w : xW) : xev 146 0 [some (xA (some a0)), some (xI n1)] [] w = b_X8_count_0 xev a0 n1 w := (xev_go 146 16 0 [some (xA (some a0)), some (xI n1)] [] w).trans (r_X8_count_0 xev a0 n1 w)
def b_J13_compare_74951_0 (ev : Nat → xK) (v0 : Int64) (v2 : Int64) (w : xW) : Option xR := if lg_cmp v0 v2 < 0 then some (some (xI (-1 : Int32)), w) else if lg_cmp v0 v2 = 0 then some (some (xI (0 : Int32)), w) else some (some (xI (1 : Int32)), w)
set_option maxRecDepth 100000 in
set_option maxHeartbeats 4000000 in
theorem r_J13_compare_74951_0 (ev : Nat → xK) (v0 : Int64) (v2 : Int64) (w : xW) : xstp (xca ev 147) 147 (xgo (xca ev 147) 147 (ev 147) 12) 0 [some (xJ v0), none, some (xJ v2), none] [] w = b_J13_compare_74951_0 ev v0 v2 w := rfl
theorem e_J13_compare_74951_0 (v0 : Int64) (v2 : Int64) (w : xW) : xev 147 0 [some (xJ v0), none, some (xJ v2), none] [] w = b_J13_compare_74951_0 xev v0 v2 w := (xev_go 147 12 0 [some (xJ v0), none, some (xJ v2), none] [] w).trans (r_J13_compare_74951_0 xev v0 v2 w)
end
section
def b_L_law_0 (ev : Nat → xK) (a0 : Nat) (w : xW) : Option xR := (ev 39 0 [some (xA (some w.1))] [] (xpush w 13 (.inr (6, xdf 6)))).bind fun p1 => xrV p1.1 ((ev 87 0 [some (xA (some p1.2.1)), none] [] (xpush p1.2 34 (.inr (7, xdf 7)))).bind fun p2 => xrV p2.1 (ev 148 18 [some (xA (some a0)), some (xA (some w.1)), some (xA (some p1.2.1)), some (xI (0 : Int32))] [] p2.2))
set_option maxRecDepth 100000 in
set_option maxHeartbeats 4000000 in
theorem r_L_law_0 (ev : Nat → xK) (a0 : Nat) (w : xW) : xstp (xca ev 148) 148 (xgo (xca ev 148) 148 (ev 148) 12) 0 [some (xA (some a0)), none, none, none] [] w = b_L_law_0 ev a0 w := rfl
theorem e_L_law_0 (a0 : Nat) (w : xW) : xev 148 0 [some (xA (some a0)), none, none, none] [] w = b_L_law_0 xev a0 w := (xev_go 148 12 0 [some (xA (some a0)), none, none, none] [] w).trans (r_L_law_0 xev a0 w)
def b_L_law_18 (ev : Nat → xK) (a0 : Nat) (a1 : Nat) (a2 : Nat) (n3 : Int32) (w : xW) : Option xR := (xlen w a0).bind fun i1 => if i1 - (6 : Int32) < n3 then some (some (xI (1 : Int32)), w) else (xaI w a0 n3).bind fun i2 => if i2 &&& (31 : Int32) = Int32.ofInt 0 then (xaI w a0 (n3 + (1 : Int32))).bind fun i3 => (xaI w a0 (n3 + (2 : Int32))).bind fun i4 => (xaI w a0 (n3 + (3 : Int32))).bind fun i5 => (xobj w a1 6).bind fun _ => (ev 40 0 [some (xA (some a1)), some (xI i3), some (xI i4), some (xI i5)] [] w).bind fun p6 => xrI p6.1 fun i7 => (xaI p6.2 a0 (n3 + (1 : Int32))).bind fun i8 => (xaI p6.2 a0 (n3 + (2 : Int32))).bind fun i9 => (xaI p6.2 a0 (n3 + (3 : Int32))).bind fun i10 => (xobj p6.2 a2 7).bind fun _ => (ev 102 0 [some (xA (some a2)), some (xI i8), some (xI i9), some (xI i10), none] [] p6.2).bind fun p11 => xrI p11.1 fun i12 => if i7 = i12 then ev 148 18 [some (xA (some a0)), some (xA (some a1)), some (xA (some a2)), some (xI (n3 + (6 : Int32)))] [] p11.2 else some (some (xI (0 : Int32)), p11.2) else if i2 &&& (31 : Int32) = Int32.ofInt 1 then (xaI w a0 (n3 + (1 : Int32))).bind fun i13 => (xaI w a0 (n3 + (2 : Int32))).bind fun i14 => (xaI w a0 (n3 + (3 : Int32))).bind fun i15 => (xobj w a1 6).bind fun _ => (ev 41 0 [some (xA (some a1)), some (xI i13), some (xI i14), some (xI i15), none, none] [] w).bind fun p16 => xrI p16.1 fun i17 => (xaI p16.2 a0 (n3 + (1 : Int32))).bind fun i18 => (xaI p16.2 a0 (n3 + (2 : Int32))).bind fun i19 => (xaI p16.2 a0 (n3 + (3 : Int32))).bind fun i20 => (xobj p16.2 a2 7).bind fun _ => (ev 104 0 [some (xA (some a2)), some (xI i18), some (xI i19), some (xI i20), none, none, none] [] p16.2).bind fun p21 => xrI p21.1 fun i22 => if i17 = i22 then ev 148 18 [some (xA (some a0)), some (xA (some a1)), some (xA (some a2)), some (xI (n3 + (6 : Int32)))] [] p21.2 else some (some (xI (0 : Int32)), p21.2) else if i2 &&& (31 : Int32) = Int32.ofInt 2 then (xaI w a0 (n3 + (1 : Int32))).bind fun i23 => (xaI w a0 (n3 + (2 : Int32))).bind fun i24 => (xobj w a1 6).bind fun _ => (ev 42 0 [some (xA (some a1)), some (xI i23), some (xI i24), none] [] w).bind fun p25 => xrI p25.1 fun i26 => (xaI p25.2 a0 (n3 + (1 : Int32))).bind fun i27 => (xaI p25.2 a0 (n3 + (2 : Int32))).bind fun i28 => (xobj p25.2 a2 7).bind fun _ => (ev 105 0 [some (xA (some a2)), some (xI i27), some (xI i28)] [] p25.2).bind fun p29 => xrI p29.1 fun i30 => if i26 = i30 then ev 148 18 [some (xA (some a0)), some (xA (some a1)), some (xA (some a2)), some (xI (n3 + (6 : Int32)))] [] p29.2 else some (some (xI (0 : Int32)), p29.2) else if i2 &&& (31 : Int32) = Int32.ofInt 3 then (xaI w a0 (n3 + (1 : Int32))).bind fun i31 => (xobj w a1 6).bind fun _ => (ev 43 0 [some (xA (some a1)), some (xI i31), none, none, none] [] w).bind fun p32 => xrI p32.1 fun i33 => (xaI p32.2 a0 (n3 + (1 : Int32))).bind fun i34 => (xobj p32.2 a2 7).bind fun _ => (ev 107 0 [some (xA (some a2)), some (xI i34), none] [] p32.2).bind fun p35 => xrI p35.1 fun i36 => if i33 = i36 then ev 148 18 [some (xA (some a0)), some (xA (some a1)), some (xA (some a2)), some (xI (n3 + (6 : Int32)))] [] p35.2 else some (some (xI (0 : Int32)), p35.2) else if i2 &&& (31 : Int32) = Int32.ofInt 4 then (xaI w a0 (n3 + (1 : Int32))).bind fun i37 => (xaI w a0 (n3 + (2 : Int32))).bind fun i38 => (xaI w a0 (n3 + (3 : Int32))).bind fun i39 => (xobj w a1 6).bind fun _ => (ev 44 0 [some (xA (some a1)), some (xI i37), some (xI i38), some (xI i39)] [] w).bind fun p40 => xrI p40.1 fun i41 => (xaI p40.2 a0 (n3 + (1 : Int32))).bind fun i42 => (xaI p40.2 a0 (n3 + (2 : Int32))).bind fun i43 => (xaI p40.2 a0 (n3 + (3 : Int32))).bind fun i44 => (xobj p40.2 a2 7).bind fun _ => (ev 109 0 [some (xA (some a2)), some (xI i42), some (xI i43), some (xI i44)] [] p40.2).bind fun p45 => xrI p45.1 fun i46 => if i41 = i46 then ev 148 18 [some (xA (some a0)), some (xA (some a1)), some (xA (some a2)), some (xI (n3 + (6 : Int32)))] [] p45.2 else some (some (xI (0 : Int32)), p45.2) else if i2 &&& (31 : Int32) = Int32.ofInt 5 then (xobj w a1 6).bind fun _ => (ev 45 0 [some (xA (some a1))] [] w).bind fun p47 => xrJ p47.1 fun j48 => (xobj p47.2 a2 7).bind fun _ => (ev 110 0 [some (xA (some a2))] [] p47.2).bind fun p49 => xrJ p49.1 fun j50 => if lg_cmp j48 j50 = 0 then ev 148 18 [some (xA (some a0)), some (xA (some a1)), some (xA (some a2)), some (xI (n3 + (6 : Int32)))] [] p49.2 else some (some (xI (0 : Int32)), p49.2) else if i2 &&& (31 : Int32) = Int32.ofInt 6 then (xaI w a0 (n3 + (1 : Int32))).bind fun i51 => (xaI w a0 (n3 + (2 : Int32))).bind fun i52 => (xaI w a0 (n3 + (3 : Int32))).bind fun i53 => (xaI w a0 (n3 + (4 : Int32))).bind fun i54 => (xaI w a0 (n3 + (5 : Int32))).bind fun i55 => (xobj w a1 6).bind fun _ => (ev 46 0 [some (xA (some a1)), some (xI i51), some (xI i52), some (xI i53), some (xJ ((i54.toInt64 <<< ((32 : Int32).toInt64 &&& 63)) ||| (i55.toInt64 &&& (4294967295 : Int64)))), none] [] w).bind fun p56 => xrI p56.1 fun i57 => (xaI p56.2 a0 (n3 + (1 : Int32))).bind fun i58 => (xaI p56.2 a0 (n3 + (2 : Int32))).bind fun i59 => (xaI p56.2 a0 (n3 + (3 : Int32))).bind fun i60 => (xaI p56.2 a0 (n3 + (4 : Int32))).bind fun i61 => (xaI p56.2 a0 (n3 + (5 : Int32))).bind fun i62 => (xobj p56.2 a2 7).bind fun _ => (ev 112 0 [some (xA (some a2)), some (xI i58), some (xI i59), some (xI i60), some (xJ ((i61.toInt64 <<< ((32 : Int32).toInt64 &&& 63)) ||| (i62.toInt64 &&& (4294967295 : Int64)))), none] [] p56.2).bind fun p63 => xrI p63.1 fun i64 => if i57 = i64 then ev 148 18 [some (xA (some a0)), some (xA (some a1)), some (xA (some a2)), some (xI (n3 + (6 : Int32)))] [] p63.2 else some (some (xI (0 : Int32)), p63.2) else if i2 &&& (31 : Int32) = Int32.ofInt 7 then (xaI w a0 (n3 + (1 : Int32))).bind fun i65 => (xaI w a0 (n3 + (2 : Int32))).bind fun i66 => (xobj w a1 6).bind fun _ => (ev 47 0 [some (xA (some a1)), some (xI i65), some (xI i66)] [] w).bind fun p67 => xrI p67.1 fun i68 => (xaI p67.2 a0 (n3 + (1 : Int32))).bind fun i69 => (xaI p67.2 a0 (n3 + (2 : Int32))).bind fun i70 => (xobj p67.2 a2 7).bind fun _ => (ev 118 0 [some (xA (some a2)), some (xI i69), some (xI i70)] [] p67.2).bind fun p71 => xrI p71.1 fun i72 => if i68 = i72 then ev 148 18 [some (xA (some a0)), some (xA (some a1)), some (xA (some a2)), some (xI (n3 + (6 : Int32)))] [] p71.2 else some (some (xI (0 : Int32)), p71.2) else if i2 &&& (31 : Int32) = Int32.ofInt 8 then (xaI w a0 (n3 + (1 : Int32))).bind fun i73 => (xaI w a0 (n3 + (2 : Int32))).bind fun i74 => (xobj w a1 6).bind fun _ => (ev 48 0 [some (xA (some a1)), some (xI i73), some (xI i74)] [] w).bind fun p75 => xrI p75.1 fun i76 => (xaI p75.2 a0 (n3 + (1 : Int32))).bind fun i77 => (xaI p75.2 a0 (n3 + (2 : Int32))).bind fun i78 => (xobj p75.2 a2 7).bind fun _ => (ev 119 0 [some (xA (some a2)), some (xI i77), some (xI i78)] [] p75.2).bind fun p79 => xrI p79.1 fun i80 => if i76 = i80 then ev 148 18 [some (xA (some a0)), some (xA (some a1)), some (xA (some a2)), some (xI (n3 + (6 : Int32)))] [] p79.2 else some (some (xI (0 : Int32)), p79.2) else if i2 &&& (31 : Int32) = Int32.ofInt 9 then (xaI w a0 (n3 + (1 : Int32))).bind fun i81 => (xaI w a0 (n3 + (2 : Int32))).bind fun i82 => (xaI w a0 (n3 + (3 : Int32))).bind fun i83 => (xobj w a1 6).bind fun _ => (ev 49 0 [some (xA (some a1)), some (xI i81), some (xJ ((i82.toInt64 <<< ((32 : Int32).toInt64 &&& 63)) ||| (i83.toInt64 &&& (4294967295 : Int64)))), none, none] [] w).bind fun p84 => xrI p84.1 fun i85 => (xaI p84.2 a0 (n3 + (1 : Int32))).bind fun i86 => (xaI p84.2 a0 (n3 + (2 : Int32))).bind fun i87 => (xaI p84.2 a0 (n3 + (3 : Int32))).bind fun i88 => (xobj p84.2 a2 7).bind fun _ => (ev 120 0 [some (xA (some a2)), some (xI i86), some (xJ ((i87.toInt64 <<< ((32 : Int32).toInt64 &&& 63)) ||| (i88.toInt64 &&& (4294967295 : Int64)))), none] [] p84.2).bind fun p89 => xrI p89.1 fun i90 => if i85 = i90 then ev 148 18 [some (xA (some a0)), some (xA (some a1)), some (xA (some a2)), some (xI (n3 + (6 : Int32)))] [] p89.2 else some (some (xI (0 : Int32)), p89.2) else if i2 &&& (31 : Int32) = Int32.ofInt 10 then (xaI w a0 (n3 + (1 : Int32))).bind fun i91 => (xobj w a1 6).bind fun _ => (ev 50 0 [some (xA (some a1)), some (xI i91)] [] w).bind fun p92 => xrJ p92.1 fun j93 => (xaI p92.2 a0 (n3 + (1 : Int32))).bind fun i94 => (xobj p92.2 a2 7).bind fun _ => (ev 122 0 [some (xA (some a2)), some (xI i94)] [] p92.2).bind fun p95 => xrJ p95.1 fun j96 => if lg_cmp j93 j96 = 0 then ev 148 18 [some (xA (some a0)), some (xA (some a1)), some (xA (some a2)), some (xI (n3 + (6 : Int32)))] [] p95.2 else some (some (xI (0 : Int32)), p95.2) else if i2 &&& (31 : Int32) = Int32.ofInt 11 then (xaI w a0 (n3 + (1 : Int32))).bind fun i97 => (xobj w a1 6).bind fun _ => (ev 51 0 [some (xA (some a1)), some (xI i97), none] [] w).bind fun p98 => xrI p98.1 fun i99 => (xaI p98.2 a0 (n3 + (1 : Int32))).bind fun i100 => (xobj p98.2 a2 7).bind fun _ => (ev 123 0 [some (xA (some a2)), some (xI i100)] [] p98.2).bind fun p101 => xrI p101.1 fun i102 => if i99 = i102 then ev 148 18 [some (xA (some a0)), some (xA (some a1)), some (xA (some a2)), some (xI (n3 + (6 : Int32)))] [] p101.2 else some (some (xI (0 : Int32)), p101.2) else if i2 &&& (31 : Int32) = Int32.ofInt 12 then (xaI w a0 (n3 + (1 : Int32))).bind fun i103 => (xaI w a0 (n3 + (2 : Int32))).bind fun i104 => (xaI w a0 (n3 + (3 : Int32))).bind fun i105 => (xobj w a1 6).bind fun _ => (ev 52 0 [some (xA (some a1)), some (xI i103), some (xI i104), some (xI i105), none, none, none] [] w).bind fun p106 => xrI p106.1 fun i107 => (xaI p106.2 a0 (n3 + (1 : Int32))).bind fun i108 => (xaI p106.2 a0 (n3 + (2 : Int32))).bind fun i109 => (xaI p106.2 a0 (n3 + (3 : Int32))).bind fun i110 => (xobj p106.2 a2 7).bind fun _ => (ev 124 0 [some (xA (some a2)), some (xI i108), some (xI i109), some (xI i110), none, none, none, none, none] [] p106.2).bind fun p111 => xrI p111.1 fun i112 => if i107 = i112 then ev 148 18 [some (xA (some a0)), some (xA (some a1)), some (xA (some a2)), some (xI (n3 + (6 : Int32)))] [] p111.2 else some (some (xI (0 : Int32)), p111.2) else if i2 &&& (31 : Int32) = Int32.ofInt 13 then (xaI w a0 (n3 + (1 : Int32))).bind fun i113 => (xaI w a0 (n3 + (2 : Int32))).bind fun i114 => (xobj w a1 6).bind fun _ => (ev 53 0 [some (xA (some a1)), some (xI i113), some (xI i114), none, none, none, none] [] w).bind fun p115 => xrI p115.1 fun i116 => (xaI p115.2 a0 (n3 + (1 : Int32))).bind fun i117 => (xaI p115.2 a0 (n3 + (2 : Int32))).bind fun i118 => (xobj p115.2 a2 7).bind fun _ => (ev 127 0 [some (xA (some a2)), some (xI i117), some (xI i118), none, none, none, none] [] p115.2).bind fun p119 => xrI p119.1 fun i120 => if i116 = i120 then ev 148 18 [some (xA (some a0)), some (xA (some a1)), some (xA (some a2)), some (xI (n3 + (6 : Int32)))] [] p119.2 else some (some (xI (0 : Int32)), p119.2) else if i2 &&& (31 : Int32) = Int32.ofInt 14 then (xaI w a0 (n3 + (1 : Int32))).bind fun i121 => (xaI w a0 (n3 + (2 : Int32))).bind fun i122 => (xobj w a1 6).bind fun _ => (ev 54 0 [some (xA (some a1)), some (xI i121), some (xI i122), none, none, none, none] [] w).bind fun p123 => xrI p123.1 fun i124 => (xaI p123.2 a0 (n3 + (1 : Int32))).bind fun i125 => (xaI p123.2 a0 (n3 + (2 : Int32))).bind fun i126 => (xobj p123.2 a2 7).bind fun _ => (ev 128 0 [some (xA (some a2)), some (xI i125), some (xI i126), none, none, none, none] [] p123.2).bind fun p127 => xrI p127.1 fun i128 => if i124 = i128 then ev 148 18 [some (xA (some a0)), some (xA (some a1)), some (xA (some a2)), some (xI (n3 + (6 : Int32)))] [] p127.2 else some (some (xI (0 : Int32)), p127.2) else if i2 &&& (31 : Int32) = Int32.ofInt 15 then (xaI w a0 (n3 + (1 : Int32))).bind fun i129 => (xobj w a1 6).bind fun _ => (ev 55 0 [some (xA (some a1)), some (xI i129), none, none] [] w).bind fun p130 => xrI p130.1 fun i131 => (xaI p130.2 a0 (n3 + (1 : Int32))).bind fun i132 => (xobj p130.2 a2 7).bind fun _ => (ev 129 0 [some (xA (some a2)), some (xI i132), none, none] [] p130.2).bind fun p133 => xrI p133.1 fun i134 => if i131 = i134 then ev 148 18 [some (xA (some a0)), some (xA (some a1)), some (xA (some a2)), some (xI (n3 + (6 : Int32)))] [] p133.2 else some (some (xI (0 : Int32)), p133.2) else if i2 &&& (31 : Int32) = Int32.ofInt 16 then (xaI w a0 (n3 + (1 : Int32))).bind fun i135 => (xaI w a0 (n3 + (2 : Int32))).bind fun i136 => (xaI w a0 (n3 + (3 : Int32))).bind fun i137 => (xaI w a0 (n3 + (4 : Int32))).bind fun i138 => (xaI w a0 (n3 + (5 : Int32))).bind fun i139 => (xobj w a1 6).bind fun _ => (ev 56 0 [some (xA (some a1)), some (xI i135), some (xI i136), some (xI i137), some (xI i138), some (xI i139), none] [] w).bind fun p140 => xrI p140.1 fun i141 => (xaI p140.2 a0 (n3 + (1 : Int32))).bind fun i142 => (xaI p140.2 a0 (n3 + (2 : Int32))).bind fun i143 => (xaI p140.2 a0 (n3 + (3 : Int32))).bind fun i144 => (xaI p140.2 a0 (n3 + (4 : Int32))).bind fun i145 => (xaI p140.2 a0 (n3 + (5 : Int32))).bind fun i146 => (xobj p140.2 a2 7).bind fun _ => (ev 131 0 [some (xA (some a2)), some (xI i142), some (xI i143), some (xI i144), some (xI i145), some (xI i146), none, none] [] p140.2).bind fun p147 => xrI p147.1 fun i148 => if i141 = i148 then ev 148 18 [some (xA (some a0)), some (xA (some a1)), some (xA (some a2)), some (xI (n3 + (6 : Int32)))] [] p147.2 else some (some (xI (0 : Int32)), p147.2) else if i2 &&& (31 : Int32) = Int32.ofInt 17 then (xaI w a0 (n3 + (1 : Int32))).bind fun i149 => (xaI w a0 (n3 + (2 : Int32))).bind fun i150 => (xobj w a1 6).bind fun _ => (ev 57 0 [some (xA (some a1)), some (xI i149), some (xI i150)] [] w).bind fun p151 => xrI p151.1 fun i152 => (xaI p151.2 a0 (n3 + (1 : Int32))).bind fun i153 => (xaI p151.2 a0 (n3 + (2 : Int32))).bind fun i154 => (xobj p151.2 a2 7).bind fun _ => (ev 133 0 [some (xA (some a2)), some (xI i153), some (xI i154), none, none, none, none, none, none] [] p151.2).bind fun p155 => xrI p155.1 fun i156 => if i152 = i156 then ev 148 18 [some (xA (some a0)), some (xA (some a1)), some (xA (some a2)), some (xI (n3 + (6 : Int32)))] [] p155.2 else some (some (xI (0 : Int32)), p155.2) else if i2 &&& (31 : Int32) = Int32.ofInt 18 then (xaI w a0 (n3 + (1 : Int32))).bind fun i157 => (xaI w a0 (n3 + (2 : Int32))).bind fun i158 => (xaI w a0 (n3 + (3 : Int32))).bind fun i159 => (xaI w a0 (n3 + (4 : Int32))).bind fun i160 => (xaI w a0 (n3 + (5 : Int32))).bind fun i161 => (xobj w a1 6).bind fun _ => (ev 58 0 [some (xA (some a1)), some (xI i157), some (xI i158), some (xI i159), some (xJ ((i160.toInt64 <<< ((32 : Int32).toInt64 &&& 63)) ||| (i161.toInt64 &&& (4294967295 : Int64)))), none, none, none] [] w).bind fun p162 => xrI p162.1 fun i163 => (xaI p162.2 a0 (n3 + (1 : Int32))).bind fun i164 => (xaI p162.2 a0 (n3 + (2 : Int32))).bind fun i165 => (xaI p162.2 a0 (n3 + (3 : Int32))).bind fun i166 => (xaI p162.2 a0 (n3 + (4 : Int32))).bind fun i167 => (xaI p162.2 a0 (n3 + (5 : Int32))).bind fun i168 => (xobj p162.2 a2 7).bind fun _ => (ev 135 0 [some (xA (some a2)), some (xI i164), some (xI i165), some (xI i166), some (xJ ((i167.toInt64 <<< ((32 : Int32).toInt64 &&& 63)) ||| (i168.toInt64 &&& (4294967295 : Int64)))), none, none] [] p162.2).bind fun p169 => xrI p169.1 fun i170 => if i163 = i170 then ev 148 18 [some (xA (some a0)), some (xA (some a1)), some (xA (some a2)), some (xI (n3 + (6 : Int32)))] [] p169.2 else some (some (xI (0 : Int32)), p169.2) else if i2 &&& (31 : Int32) = Int32.ofInt 19 then (xaI w a0 (n3 + (1 : Int32))).bind fun i171 => (xaI w a0 (n3 + (2 : Int32))).bind fun i172 => (xaI w a0 (n3 + (3 : Int32))).bind fun i173 => (xobj w a1 6).bind fun _ => (ev 59 0 [some (xA (some a1)), some (xI i171), some (xI i172), some (xI i173)] [] w).bind fun p174 => xrI p174.1 fun i175 => (xaI p174.2 a0 (n3 + (1 : Int32))).bind fun i176 => (xaI p174.2 a0 (n3 + (2 : Int32))).bind fun i177 => (xaI p174.2 a0 (n3 + (3 : Int32))).bind fun i178 => (xobj p174.2 a2 7).bind fun _ => (ev 137 0 [some (xA (some a2)), some (xI i176), some (xI i177), some (xI i178), none, none, none] [] p174.2).bind fun p179 => xrI p179.1 fun i180 => if i175 = i180 then ev 148 18 [some (xA (some a0)), some (xA (some a1)), some (xA (some a2)), some (xI (n3 + (6 : Int32)))] [] p179.2 else some (some (xI (0 : Int32)), p179.2) else if i2 &&& (31 : Int32) = Int32.ofInt 20 then (xaI w a0 (n3 + (1 : Int32))).bind fun i181 => (xaI w a0 (n3 + (2 : Int32))).bind fun i182 => (xobj w a1 6).bind fun _ => (ev 60 0 [some (xA (some a1)), some (xI i181), some (xI i182)] [] w).bind fun p183 => xrI p183.1 fun i184 => (xaI p183.2 a0 (n3 + (1 : Int32))).bind fun i185 => (xaI p183.2 a0 (n3 + (2 : Int32))).bind fun i186 => (xobj p183.2 a2 7).bind fun _ => (ev 138 0 [some (xA (some a2)), some (xI i185), some (xI i186)] [] p183.2).bind fun p187 => xrI p187.1 fun i188 => if i184 = i188 then ev 148 18 [some (xA (some a0)), some (xA (some a1)), some (xA (some a2)), some (xI (n3 + (6 : Int32)))] [] p187.2 else some (some (xI (0 : Int32)), p187.2) else if i2 &&& (31 : Int32) = Int32.ofInt 21 then (xaI w a0 (n3 + (1 : Int32))).bind fun i189 => (xaI w a0 (n3 + (2 : Int32))).bind fun i190 => (xaI w a0 (n3 + (3 : Int32))).bind fun i191 => (xobj w a1 6).bind fun _ => (ev 61 0 [some (xA (some a1)), some (xI i189), some (xI i190), some (xI i191), none, none, none, none, none] [] w).bind fun p192 => xrI p192.1 fun i193 => (xaI p192.2 a0 (n3 + (1 : Int32))).bind fun i194 => (xaI p192.2 a0 (n3 + (2 : Int32))).bind fun i195 => (xaI p192.2 a0 (n3 + (3 : Int32))).bind fun i196 => (xobj p192.2 a2 7).bind fun _ => (ev 139 0 [some (xA (some a2)), some (xI i194), some (xI i195), some (xI i196), none, none, none] [] p192.2).bind fun p197 => xrI p197.1 fun i198 => if i193 = i198 then ev 148 18 [some (xA (some a0)), some (xA (some a1)), some (xA (some a2)), some (xI (n3 + (6 : Int32)))] [] p197.2 else some (some (xI (0 : Int32)), p197.2) else if i2 &&& (31 : Int32) = Int32.ofInt 22 then (xaI w a0 (n3 + (1 : Int32))).bind fun i199 => (xobj w a1 6).bind fun _ => (ev 62 0 [some (xA (some a1)), some (xI i199)] [] w).bind fun p200 => xrI p200.1 fun i201 => (xaI p200.2 a0 (n3 + (1 : Int32))).bind fun i202 => (xobj p200.2 a2 7).bind fun _ => (ev 141 0 [some (xA (some a2)), some (xI i202), none, none, none, none] [] p200.2).bind fun p203 => xrI p203.1 fun i204 => if i201 = i204 then ev 148 18 [some (xA (some a0)), some (xA (some a1)), some (xA (some a2)), some (xI (n3 + (6 : Int32)))] [] p203.2 else some (some (xI (0 : Int32)), p203.2) else if i2 &&& (31 : Int32) = Int32.ofInt 23 then (xaI w a0 (n3 + (1 : Int32))).bind fun i205 => (xobj w a1 6).bind fun _ => (ev 63 0 [some (xA (some a1)), some (xI i205), none] [] w).bind fun p206 => xrI p206.1 fun i207 => (xaI p206.2 a0 (n3 + (1 : Int32))).bind fun i208 => (xobj p206.2 a2 7).bind fun _ => (ev 142 0 [some (xA (some a2)), some (xI i208), none, none, none, none] [] p206.2).bind fun p209 => xrI p209.1 fun i210 => if i207 = i210 then ev 148 18 [some (xA (some a0)), some (xA (some a1)), some (xA (some a2)), some (xI (n3 + (6 : Int32)))] [] p209.2 else some (some (xI (0 : Int32)), p209.2) else if i2 &&& (31 : Int32) = Int32.ofInt 24 then (xaI w a0 (n3 + (1 : Int32))).bind fun i211 => (xaI w a0 (n3 + (2 : Int32))).bind fun i212 => (xobj w a1 6).bind fun _ => (ev 64 0 [some (xA (some a1)), some (xI i211), some (xI i212)] [] w).bind fun p213 => xrI p213.1 fun i214 => (xaI p213.2 a0 (n3 + (1 : Int32))).bind fun i215 => (xaI p213.2 a0 (n3 + (2 : Int32))).bind fun i216 => (xobj p213.2 a2 7).bind fun _ => (ev 143 0 [some (xA (some a2)), some (xI i215), some (xI i216)] [] p213.2).bind fun p217 => xrI p217.1 fun i218 => if i214 = i218 then ev 148 18 [some (xA (some a0)), some (xA (some a1)), some (xA (some a2)), some (xI (n3 + (6 : Int32)))] [] p217.2 else some (some (xI (0 : Int32)), p217.2) else if i2 &&& (31 : Int32) = Int32.ofInt 25 then (xaI w a0 (n3 + (1 : Int32))).bind fun i219 => (xobj w a1 6).bind fun _ => (ev 65 0 [some (xA (some a1)), some (xI i219)] [] w).bind fun p220 => xrI p220.1 fun i221 => (xaI p220.2 a0 (n3 + (1 : Int32))).bind fun i222 => (xobj p220.2 a2 7).bind fun _ => (ev 146 0 [some (xA (some a2)), some (xI i222)] [] p220.2).bind fun p223 => xrI p223.1 fun i224 => if i221 = i224 then ev 148 18 [some (xA (some a0)), some (xA (some a1)), some (xA (some a2)), some (xI (n3 + (6 : Int32)))] [] p223.2 else some (some (xI (0 : Int32)), p223.2) else ev 148 18 [some (xA (some a0)), some (xA (some a1)), some (xA (some a2)), some (xI (n3 + (6 : Int32)))] [] w
set_option maxRecDepth 100000 in
set_option maxHeartbeats 4000000 in
theorem r_L_law_18 (ev : Nat → xK) (a0 : Nat) (a1 : Nat) (a2 : Nat) (n3 : Int32) (w : xW) : xstp (xca ev 148) 148 (xgo (xca ev 148) 148 (ev 148) 85) 18 [some (xA (some a0)), some (xA (some a1)), some (xA (some a2)), some (xI n3)] [] w = b_L_law_18 ev a0 a1 a2 n3 w := rfl
theorem e_L_law_18 (a0 : Nat) (a1 : Nat) (a2 : Nat) (n3 : Int32) (w : xW) : xev 148 18 [some (xA (some a0)), some (xA (some a1)), some (xA (some a2)), some (xI n3)] [] w = b_L_law_18 xev a0 a1 a2 n3 w := (xev_go 148 85 18 [some (xA (some a0)), some (xA (some a1)), some (xA (some a2)), some (xI n3)] [] w).trans (r_L_law_18 xev a0 a1 a2 n3 w)
end
section
/-! how a world lies in the machine's heap -/
def xty (k : Nat) : FieldType := match k with
  | 0 => .int
  | 1 => .long
  | 2 => .double
  | 3 => .boolean
  | 4 => .object "CoreBook$Holding"
  | 5 => .object "CoreBook$Thing"
  | 6 => .object "CoreBook$Page"
  | _ => .int
def xval (v : (Nat → Int32) ⊕ (Nat → Int64) ⊕ (Nat → UInt32) ⊕ (Nat → UInt64) ⊕ (Nat → Option Nat)) (j : Nat) : Value := match v with
  | .inl f => .int (f j)
  | .inr (.inl f) => .long (f j)
  | .inr (.inr (.inl f)) => .float (f j)
  | .inr (.inr (.inr (.inl f))) => .double (f j)
  | .inr (.inr (.inr (.inr f))) => va_rf (f j)
def xarC (s : State) (k n : Nat) (v : (Nat → Int32) ⊕ (Nat → Int64) ⊕ (Nat → UInt32) ⊕ (Nat → UInt64) ⊕ (Nat → Option Nat)) (cell : Cell) : Prop :=
  s.isArrayOf cell (xty k) ∧ (4 ≤ k → k ≤ 6 → va_RA s cell.cls (xty k)) ∧ cell.vm ≠ .unknown ∧ (n ≤ cell.slots.size ∧ cell.slots.size.toInt32 = Int32.ofNat n) ∧ ∀ j, j < n → cell.slots[j]? = some (xval v j)
def xat (D : va_G) (s : State) (a : Nat) (e : xE) (H : Heap) : Prop := match e with
  | .inl q => ∃ cell : Cell, H[a]? = some cell ∧ xarC s q.1 q.2.1 q.2.2 cell
  | .inr q => ∃ r : vw_C, xcl[q.1]? = some r ∧ t_OB a (D.1 q.1) r.2.2 (D.2 q.1) H (vp_V (q.2.map xv))
def xro (e : xE) : Prop := match e with
  | .inl q => q.1 = 7
  | .inr _ => False
/-- the world's cells lie in the heap; those that may be written lie from z0 on -/
def xP (D : va_G) (z0 : Nat) (s : State) (w : xW) (H : Heap) : Prop := H.size = w.1 ∧ z0 ≤ w.1 ∧ ∀ a e, w.2.2.2 a = some e → xat D s a e H ∧ (xro e ∨ z0 ≤ a)
theorem xat_kept {D : va_G} {s : State} {a : Nat} {e : xE} {H H1 : Heap} (h : xat D s a e H) (hq : H1[a]? = H[a]?) : xat D s a e H1 := by
  cases e with
  | inl q => obtain ⟨cell, h1, h2⟩ := h; exact ⟨cell, hq.trans h1, h2⟩
  | inr q => obtain ⟨r, h1, h2⟩ := h; exact ⟨r, h1, h2.kept hq⟩
theorem xat_lt {D : va_G} {s : State} {a : Nat} {e : xE} {H : Heap} (h : xat D s a e H) : a < H.size := by
  cases e with
  | inl q => obtain ⟨cell, h1, h2⟩ := h; exact (Array.getElem?_eq_some_iff.mp h1).1
  | inr q => obtain ⟨r, h1, cell, h2, -⟩ := h; exact (Array.getElem?_eq_some_iff.mp h2).1
theorem xat_moved {D : va_G} {s U : State} {a : Nat} {e : xE} {H : Heap} (hvm : s.vm.Alike U.vm) (h : xat D s a e H) : xat D U a e H := by
  cases e with
  | inl q => obtain ⟨cell, h1, h2, h3, h4⟩ := h; exact ⟨cell, h1, State.isArrayOf_alike hvm h2, fun a b => (h3 a b).moved hvm, h4⟩
  | inr q => exact h
theorem xP_moved {D : va_G} {z0 : Nat} {s U : State} {w : xW} {H : Heap} (hvm : s.vm.Alike U.vm) (h : xP D z0 s w H) : xP D z0 U w H := ⟨h.1, h.2.1, fun a e he => ⟨xat_moved hvm (h.2.2 a e he).1, (h.2.2 a e he).2⟩⟩
theorem xP_set {D : va_G} {z0 : Nat} {s : State} {w : xW} {H H1 : Heap} {a : Nat} {e0 e : xE} (h : xP D z0 s w H) (h0 : w.2.2.2 a = some e0) (hr : ¬ xro e0) (hz : H1.size = H.size) (ho : ∀ q : Nat, q ≠ a → H1[q]? = H[q]?) (he : xat D s a e H1) : xP D z0 s (xset w a e) H1 ∧ z0 ≤ a := by
  have ha : z0 ≤ a := (h.2.2 a e0 h0).2.resolve_left hr
  refine ⟨⟨hz.trans h.1, h.2.1, fun b f hb => ?_⟩, ha⟩
  have hb : xup w.2.2.2 a e b = some f := hb
  unfold xup at hb
  by_cases hba : b = a
  · rw [if_pos hba] at hb
    cases hb
    rw [hba]
    exact ⟨he, Or.inr ha⟩
  · rw [if_neg hba] at hb
    exact ⟨xat_kept (h.2.2 b f hb).1 (ho b hba), (h.2.2 b f hb).2⟩
theorem xP_push {D : va_G} {z0 n : Nat} {s : State} {w : xW} {H H1 : Heap} {e : xE} (h : xP D z0 s w H) (hz : H1.size = H.size + 1) (ho : ∀ q : Nat, q < H.size → H1[q]? = H[q]?) (he : xat D s H.size e H1) : xP D z0 s (xpush w n e) H1 := by
  refine ⟨by rw [hz, h.1]; rfl, Nat.le_succ_of_le h.2.1, fun b f hb => ?_⟩
  have hb : xup w.2.2.2 w.1 e b = some f := hb
  unfold xup at hb
  by_cases hba : b = w.1
  · rw [if_pos hba] at hb
    cases hb
    rw [hba, ← h.1]
    exact ⟨he, Or.inr (by rw [h.1]; exact h.2.1)⟩
  · rw [if_neg hba] at hb
    exact ⟨xat_kept (h.2.2 b f hb).1 (ho b (xat_lt (h.2.2 b f hb).1)), (h.2.2 b f hb).2⟩
/-! what the tables say, wherever a method of the program stands -/
theorem xcl_at {c : Nat} (h : c < 8) : xcl[c]? = some (xcs c, xTT c, (xdf c).length) := by
  match c, h with

  | 0, _ => rfl
  | 1, _ => rfl
  | 2, _ => rfl
  | 3, _ => rfl
  | 4, _ => rfl
  | 5, _ => rfl
  | 6, _ => rfl
  | 7, _ => rfl
theorem xnm {c : Nat} (h : c < 8) : ∀ a, a < (xdf c).length → ∀ b, b < (xdf c).length → a ≠ b → (xTT c a).2.1 ≠ (xTT c b).2.1 := by
  match c, h with
  | 0, _ => exact xn_0
  | 1, _ => exact xn_1
  | 2, _ => exact xn_2
  | 3, _ => exact xn_3
  | 4, _ => exact xn_4
  | 5, _ => exact xn_5
  | 6, _ => exact xn_6
  | 7, _ => exact xn_7
theorem xtd {c : Nat} (h : c < 8) : ∀ k, k < (xdf c).length → parseFieldDescriptor (xTT c k).2.2.1 = some (xYY c k) := by
  match c, h with
  | 0, _ => exact xt_0
  | 1, _ => exact xt_1
  | 2, _ => exact xt_2
  | 3, _ => exact xt_3
  | 4, _ => exact xt_4
  | 5, _ => exact xt_5
  | 6, _ => exact xt_6
  | 7, _ => exact xt_7
theorem xdv {c : Nat} (h : c < 8) : ∀ j, j < (xdf c).length → defaultValue (xYY c j) = vp_V ((xdf c).map xv) j := by
  match c, h with
  | 0, _ => decide +kernel
  | 1, _ => decide +kernel
  | 2, _ => decide +kernel
  | 3, _ => decide +kernel
  | 4, _ => decide +kernel
  | 5, _ => decide +kernel
  | 6, _ => decide +kernel
  | 7, _ => decide +kernel
abbrev xgd : List Cond := lw_tbl.filter goodWord
theorem xgd_at {i : Nat} {c : Cond} (h : lw_tbl[i]? = some c) (hg : goodWord c = true) : c ∈ xgd := List.mem_filter.mpr ⟨List.mem_of_getElem? h, hg⟩
theorem xlay_0 : ∀ k, k < 1 → lw_tbl[([84] : List Nat).getD k 0]? = some (u_lay (xcs 0) (xTT 0) k) ∧ goodWord (u_lay (xcs 0) (xTT 0) k) = true := by decide +kernel
theorem xlay_1 : ∀ k, k < 3 → lw_tbl[([99, 101, 103] : List Nat).getD k 0]? = some (u_lay (xcs 1) (xTT 1) k) ∧ goodWord (u_lay (xcs 1) (xTT 1) k) = true := by decide +kernel
theorem xlay_2 : ∀ k, k < 3 → lw_tbl[([119, 121, 123] : List Nat).getD k 0]? = some (u_lay (xcs 2) (xTT 2) k) ∧ goodWord (u_lay (xcs 2) (xTT 2) k) = true := by decide +kernel
theorem xlay_3 : ∀ k, k < 3 → lw_tbl[([210, 212, 214] : List Nat).getD k 0]? = some (u_lay (xcs 3) (xTT 3) k) ∧ goodWord (u_lay (xcs 3) (xTT 3) k) = true := by decide +kernel
theorem xlay_4 : ∀ k, k < 1 → lw_tbl[([133] : List Nat).getD k 0]? = some (u_lay (xcs 4) (xTT 4) k) ∧ goodWord (u_lay (xcs 4) (xTT 4) k) = true := by decide +kernel
theorem xlay_5 : ∀ k, k < 3 → lw_tbl[([76, 78, 80] : List Nat).getD k 0]? = some (u_lay (xcs 5) (xTT 5) k) ∧ goodWord (u_lay (xcs 5) (xTT 5) k) = true := by decide +kernel
theorem xlay_6 : ∀ k, k < 13 → lw_tbl[([149, 151, 153, 155, 157, 159, 161, 163, 165, 167, 169, 171, 173] : List Nat).getD k 0]? = some (u_lay (xcs 6) (xTT 6) k) ∧ goodWord (u_lay (xcs 6) (xTT 6) k) = true := by decide +kernel
theorem xlay_7 : ∀ k, k < 34 → lw_tbl[([579, 581, 583, 585, 587, 589, 591, 593, 595, 597, 599, 601, 603, 605, 607, 609, 611, 613, 615, 617, 619, 621, 623, 625, 627, 629, 631, 633, 635, 637, 639, 641, 643, 645] : List Nat).getD k 0]? = some (u_lay (xcs 7) (xTT 7) k) ∧ goodWord (u_lay (xcs 7) (xTT 7) k) = true := by decide +kernel
theorem xlay {c : Nat} (h : c < 8) : ∀ q ∈ u_ws (xcs c) (xTT c) (xdf c).length, q ∈ xgd := by
  intro q hq
  obtain ⟨k, hk, rfl⟩ := List.mem_map.mp hq
  have hk := List.mem_range.mp hk
  match c, h with
  | 0, _ => exact xgd_at (xlay_0 k hk).1 (xlay_0 k hk).2
  | 1, _ => exact xgd_at (xlay_1 k hk).1 (xlay_1 k hk).2
  | 2, _ => exact xgd_at (xlay_2 k hk).1 (xlay_2 k hk).2
  | 3, _ => exact xgd_at (xlay_3 k hk).1 (xlay_3 k hk).2
  | 4, _ => exact xgd_at (xlay_4 k hk).1 (xlay_4 k hk).2
  | 5, _ => exact xgd_at (xlay_5 k hk).1 (xlay_5 k hk).2
  | 6, _ => exact xgd_at (xlay_6 k hk).1 (xlay_6 k hk).2
  | 7, _ => exact xgd_at (xlay_7 k hk).1 (xlay_7 k hk).2
def xhc : MethodName := ⟨"CoreBook$Holding", "content", "()I"⟩
def xTb (D : va_G) (s : State) : Prop :=
  (∀ q ∈ xgd, q.before #[] s = true) ∧ va_K D xcl [] s ∧ va_Nw (.methodLinkNest (xcs 3) 49 (xmi 72).2.1 (xcs 6)) s ∧ va_Nw (.methodLinkNest (xcs 3) 53 (xmi 71).2.1 (xcs 6)) s ∧ va_Fw (xcs 3) xhc (xmi 18).2.1 s ∧ va_Fw (xcs 5) xhc (xmi 34).2.1 s ∧ va_AO (xqn 4) s ∧ va_AO (xqn 5) s ∧ va_AO (xqn 6) s ∧ va_Nc (xcs 5) (xcs 3) s
theorem xTb_moved {D : va_G} {s U : State} (hW : s.WarmedH U.vm) (h : xTb D s) : xTb D U := by
  obtain ⟨h1, h2, h3, h4, h5, h6, h7, h8, h9, h10⟩ := h
  refine ⟨fun q hq => word_at hW (good_of_word (List.mem_filter.mp hq).2) (h1 q hq), va_K.moved hW.alike h2, va_Nw.warmM hW h3, va_Nw.warmM hW h4, va_Fw.moved (by decide +kernel) hW.alike h5, va_Fw.moved (by decide +kernel) hW.alike h6, va_AO.moved hW.alike h7, va_AO.moved hW.alike h8, va_AO.moved hW.alike h9, va_Nc.moved hW.alike h10⟩
theorem xTb_word {D : va_G} {s : State} (h : xTb D s) {q : Cond} (hq : q ∈ xgd) (args : Array Value) : q.before args s = true := word_at (State.WarmedH.refl s) (good_of_word (List.mem_filter.mp hq).2) (h.1 q hq)

/-- the local variables -/
def xLs (ls : Array Slot) (l : xL) : Prop := ls.size = l.length ∧ lv_wf ls ∧ ∀ (i : Nat) (v : xV), l[i]? = some (some v) → ls[i]? = some (.val (xv v))
theorem xLs_mk {ls : Array Slot} {l : xL} {ms : List Bool} (h : xLs ls l) (hm : ms = [] ∨ ms.length = l.length) : xLs ls (xmk ms l) := by
  cases ms with
  | nil => exact h
  | cons c cs =>
    have hm : (c :: cs).length = l.length := hm.resolve_left (by simp)
    show xLs ls (List.zipWith (fun b x => bif b then x else none) (c :: cs) l)
    generalize c :: cs = ms at hm ⊢
    refine ⟨?_, h.2.1, fun i v hv => ?_⟩
    · rw [h.1, List.length_zipWith, hm, Nat.min_self]
    · apply h.2.2 i v
      rw [List.getElem?_zipWith] at hv
      cases h1 : ms[i]? with
      | none => rw [h1] at hv; simp at hv
      | some b =>
        cases h2 : l[i]? with
        | none => rw [h1, h2] at hv; simp at hv
        | some x =>
          rw [h1, h2] at hv
          cases b with
          | true => simpa using hv
          | false => simp at hv
theorem xct_cat (v : xV) : (xv v).category = xct v := by
  obtain x | x | x | x | x := v <;> try rfl
  cases x <;> rfl
theorem xclr_len (l : xL) (i : Nat) : (xclr l i).length = l.length := by
  unfold xclr
  split
  · rfl
  · split <;> simp
theorem xclr_get {l : xL} {i j : Nat} {v : xV} (h : (xclr l i)[j]? = some (some v)) : l[j]? = some (some v) ∧ ¬ (j + 1 = i ∧ xct v = 2) := by
  unfold xclr at h
  cases i with
  | zero => exact ⟨h, fun q => by omega⟩
  | succ k =>
    simp only at h
    by_cases hj : j = k
    · subst hj
      cases hl : l[j]? with
      | none => rw [hl] at h; simp only at h; rw [hl] at h; cases h
      | some o =>
        cases o with
        | none => rw [hl] at h; simp only at h; rw [hl] at h; cases h
        | some u =>
          have hlt : j < l.length := (List.getElem?_eq_some_iff.mp hl).1
          rw [hl] at h
          obtain x | x | x | x | x := u <;> simp only at h
          · rw [hl] at h; cases h; exact ⟨rfl, fun q => by simp [xct] at q⟩
          · rw [List.getElem?_set_self hlt] at h; cases h
          · rw [hl] at h; cases h; exact ⟨rfl, fun q => by simp [xct] at q⟩
          · rw [List.getElem?_set_self hlt] at h; cases h
          · rw [hl] at h; cases h; exact ⟨rfl, fun q => by simp [xct] at q⟩
    · refine ⟨?_, fun q => hj (by omega)⟩
      split at h
      · rw [List.getElem?_set_ne (Ne.symm hj)] at h; exact h
      · rw [List.getElem?_set_ne (Ne.symm hj)] at h; exact h
      · exact h
theorem xs1_ok {ls : Array Slot} {l : xL} {i : Nat} {v : xV} (h : xLs ls l) (hi : i < l.length) (hc : xct v = 1) : ∃ ls', storeLocals ls i (xv v) = some ls' ∧ xLs ls' (xs1 l i v) := by
  have hb : lv_has ls l.length [] := ⟨h.1, h.2.1, fun q hq => by cases hq⟩
  have hcv : (xv v).category = 1 := by rw [xct_cat]; exact hc
  obtain ⟨ls', e', h'⟩ := lv_store1 (v := xv v) hb hi hcv
  refine ⟨ls', e', by rw [h'.1]; unfold xs1; rw [List.length_set, xclr_len], h'.2.1, fun j u hu => ?_⟩
  unfold xs1 at hu
  by_cases hj : j = i
  · subst hj
    rw [List.getElem?_set_self (by rw [xclr_len]; exact hi)] at hu
    cases hu
    exact h'.2.2 (j, xv v) List.mem_cons_self
  · rw [List.getElem?_set_ne (Ne.symm hj)] at hu
    obtain ⟨h1, h2⟩ := xclr_get hu
    have hb2 : lv_has ls l.length [(j, xv u)] := ⟨h.1, h.2.1, fun q hq => by rw [List.mem_singleton.mp hq]; exact h.2.2 j u h1⟩
    obtain ⟨ls2, e2, h2'⟩ := lv_store1 (v := xv v) hb2 hi hcv
    cases e'.symm.trans e2
    refine h2'.2.2 (j, xv u) (List.mem_cons_of_mem _ (List.mem_filter.mpr ⟨List.mem_singleton.mpr rfl, ?_⟩))
    simp only [Bool.and_eq_true, Bool.not_eq_true', beq_eq_false_iff_ne, ne_eq, Bool.and_eq_false_iff]
    refine ⟨hj, ?_⟩
    by_cases hji : j + 1 = i
    · exact Or.inr (fun q => h2 ⟨hji, by rw [← xct_cat]; exact q⟩)
    · exact Or.inl hji
theorem xs2_ok {ls : Array Slot} {l : xL} {i : Nat} {v : xV} (h : xLs ls l) (hi : i + 1 < l.length) (hc : xct v = 2) : ∃ ls', storeLocals ls i (xv v) = some ls' ∧ xLs ls' (xs2 l i v) := by
  have hb : lv_has ls l.length [] := ⟨h.1, h.2.1, fun q hq => by cases hq⟩
  have hcv : (xv v).category = 2 := by rw [xct_cat]; exact hc
  obtain ⟨ls', e', h'⟩ := lv_store2 (v := xv v) hb hi hcv
  refine ⟨ls', e', by rw [h'.1]; unfold xs2; rw [List.length_set, List.length_set, xclr_len], h'.2.1, fun j u hu => ?_⟩
  unfold xs2 at hu
  by_cases hj1 : j = i + 1
  · subst hj1
    rw [List.getElem?_set_self (by rw [List.length_set, xclr_len]; exact hi)] at hu
    cases hu
  · rw [List.getElem?_set_ne (Ne.symm hj1)] at hu
    by_cases hj : j = i
    · subst hj
      rw [List.getElem?_set_self (by rw [xclr_len]; omega)] at hu
      cases hu
      exact h'.2.2 (j, xv v) List.mem_cons_self
    · rw [List.getElem?_set_ne (Ne.symm hj)] at hu
      obtain ⟨h1, h2⟩ := xclr_get hu
      have hb2 : lv_has ls l.length [(j, xv u)] := ⟨h.1, h.2.1, fun q hq => by rw [List.mem_singleton.mp hq]; exact h.2.2 j u h1⟩
      obtain ⟨ls2, e2, h2'⟩ := lv_store2 (v := xv v) hb2 hi hcv
      cases e'.symm.trans e2
      refine h2'.2.2 (j, xv u) (List.mem_cons_of_mem _ (List.mem_filter.mpr ⟨List.mem_singleton.mpr rfl, ?_⟩))
      simp only [Bool.and_eq_true, Bool.not_eq_true', beq_eq_false_iff_ne, ne_eq, Bool.and_eq_false_iff]
      refine ⟨hj, hj1, ?_⟩
      by_cases hji : j + 1 = i
      · exact Or.inr (fun q => h2 ⟨hji, by rw [← xct_cat]; exact q⟩)
      · exact Or.inl hji
end
section
/-! what it means that a step was made -/
section XINV
variable {α : Type} {z : α}
theorem xcv_s {c : Option xV} {f : xV → Option α} (h : xcv c f = some z) : ∃ v, c = some v ∧ f v = some z := by
  cases c with
  | none => cases h
  | some v => exact ⟨v, rfl, h⟩
theorem xpI_s {st : List xV} {f : Int32 → List xV → Option α} (h : xpI st f = some z) : ∃ x r, st = xI x :: r ∧ f x r = some z := by
  unfold xpI at h
  split at h
  · exact ⟨_, _, rfl, h⟩
  · cases h
theorem xpJ_s {st : List xV} {f : Int64 → List xV → Option α} (h : xpJ st f = some z) : ∃ x r, st = xJ x :: r ∧ f x r = some z := by
  unfold xpJ at h
  split at h
  · exact ⟨_, _, rfl, h⟩
  · cases h
theorem xpF_s {st : List xV} {f : UInt32 → List xV → Option α} (h : xpF st f = some z) : ∃ x r, st = xF x :: r ∧ f x r = some z := by
  unfold xpF at h
  split at h
  · exact ⟨_, _, rfl, h⟩
  · cases h
theorem xpD_s {st : List xV} {f : UInt64 → List xV → Option α} (h : xpD st f = some z) : ∃ x r, st = xD x :: r ∧ f x r = some z := by
  unfold xpD at h
  split at h
  · exact ⟨_, _, rfl, h⟩
  · cases h
theorem xpA_s {st : List xV} {f : Option Nat → List xV → Option α} (h : xpA st f = some z) : ∃ x r, st = xA x :: r ∧ f x r = some z := by
  unfold xpA at h
  split at h
  · exact ⟨_, _, rfl, h⟩
  · cases h
theorem xnl_s {st : List xV} {f : Option α} (h : xnl st f = some z) : st = [] ∧ f = some z := by
  unfold xnl at h
  split at h
  · exact ⟨rfl, h⟩
  · cases h
theorem xlI_s {l : xL} {i : Nat} {f : Int32 → Option α} (h : xlI l i f = some z) : ∃ x, l[i]? = some (some (xI x)) ∧ f x = some z := by
  unfold xlI at h
  split at h
  · next x hx => exact ⟨x, hx, h⟩
  · cases h
theorem xlJ_s {l : xL} {i : Nat} {f : Int64 → Option α} (h : xlJ l i f = some z) : ∃ x, l[i]? = some (some (xJ x)) ∧ f x = some z := by
  unfold xlJ at h
  split at h
  · next x hx => exact ⟨x, hx, h⟩
  · cases h
theorem xlF_s {l : xL} {i : Nat} {f : UInt32 → Option α} (h : xlF l i f = some z) : ∃ x, l[i]? = some (some (xF x)) ∧ f x = some z := by
  unfold xlF at h
  split at h
  · next x hx => exact ⟨x, hx, h⟩
  · cases h
theorem xlD_s {l : xL} {i : Nat} {f : UInt64 → Option α} (h : xlD l i f = some z) : ∃ x, l[i]? = some (some (xD x)) ∧ f x = some z := by
  unfold xlD at h
  split at h
  · next x hx => exact ⟨x, hx, h⟩
  · cases h
theorem xlA_s {l : xL} {i : Nat} {f : Option Nat → Option α} (h : xlA l i f = some z) : ∃ x, l[i]? = some (some (xA x)) ∧ f x = some z := by
  unfold xlA at h
  split at h
  · next x hx => exact ⟨x, hx, h⟩
  · cases h
theorem xrV_s {r : Option xV} {f : Option α} (h : xrV r f = some z) : r = none ∧ f = some z := by
  unfold xrV at h
  split at h
  · exact ⟨rfl, h⟩
  · cases h
theorem xrI_s {r : Option xV} {f : Int32 → Option α} (h : xrI r f = some z) : ∃ x, r = some (xI x) ∧ f x = some z := by
  unfold xrI at h
  split at h
  · exact ⟨_, rfl, h⟩
  · cases h
theorem xrJ_s {r : Option xV} {f : Int64 → Option α} (h : xrJ r f = some z) : ∃ x, r = some (xJ x) ∧ f x = some z := by
  unfold xrJ at h
  split at h
  · exact ⟨_, rfl, h⟩
  · cases h
theorem xrD_s {r : Option xV} {f : UInt64 → Option α} (h : xrD r f = some z) : ∃ x, r = some (xD x) ∧ f x = some z := by
  unfold xrD at h
  split at h
  · exact ⟨_, rfl, h⟩
  · cases h
theorem xrA_s {r : Option xV} {f : Option Nat → Option α} (h : xrA r f = some z) : ∃ x, r = some (xA x) ∧ f x = some z := by
  unfold xrA at h
  split at h
  · exact ⟨_, rfl, h⟩
  · cases h
theorem xrc_s {as : List xV} {f : Option Nat → Option α} (h : xrc as f = some z) : ∃ x r, as = xA x :: r ∧ f x = some z := by
  unfold xrc at h
  split at h
  · exact ⟨_, _, rfl, h⟩
  · cases h
theorem xnF_s {x : UInt32} {f : UInt32 → Option α} (h : xnF x f = some z) : vf_n32 x ∧ f x = some z := by
  unfold xnF at h
  split at h
  · next hc => exact ⟨hc, h⟩
  · cases h
theorem xnD_s {x : UInt64} {f : UInt64 → Option α} (h : xnD x f = some z) : vf_n64 x ∧ f x = some z := by
  unfold xnD at h
  split at h
  · next hc => exact ⟨hc, h⟩
  · cases h
theorem xbi_s {β : Type} {o : Option β} {f : β → Option α} (h : o.bind f = some z) : ∃ x, o = some x ∧ f x = some z := by
  cases o with
  | none => cases h
  | some x => exact ⟨x, rfl, h⟩
theorem xco_s {c : Bool} {f : Option α} (h : (bif c then f else none) = some z) : c = true ∧ f = some z := by
  cases c with
  | true => exact ⟨rfl, h⟩
  | false => cases h
theorem xans_s {cv r : Option xV} {st : List xV} {f : List xV → Option α} (h : xans cv r st f = some z) : f (r.toList ++ st) = some z := by
  unfold xans at h
  split at h
  · obtain ⟨rfl, h⟩ := xrV_s h; exact h
  · obtain ⟨x, rfl, h⟩ := xrI_s h; exact h
  · obtain ⟨x, rfl, h⟩ := xrJ_s h; exact h
  · obtain ⟨x, rfl, h⟩ := xrD_s h; exact h
  · obtain ⟨x, rfl, h⟩ := xrA_s h; exact h
  · cases h
theorem xsw_s {x : Int32} {pc d : Nat} {f : Nat → Option α} : ∀ (os : List Int) (j : Int), xsw x pc f j os d = some z → (∃ (n : Nat) (o : Int), os[n]? = some o ∧ x = Int32.ofInt (j + n) ∧ f ((pc : Int) + o).toNat = some z) ∨ ((∀ n : Nat, n < os.length → x ≠ Int32.ofInt (j + n)) ∧ f d = some z)
  | [], j, h => Or.inr ⟨fun n hn => absurd hn (Nat.not_lt_zero _), h⟩
  | o :: r, j, h => by
    rw [xsw] at h
    by_cases hx : x = Int32.ofInt j
    · rw [if_pos hx] at h
      exact Or.inl ⟨0, o, rfl, by simpa using hx, h⟩
    · rw [if_neg hx] at h
      rcases xsw_s r (j + 1) h with ⟨n, o', h1, h2, h3⟩ | ⟨h1, h2⟩
      · refine Or.inl ⟨n + 1, o', by simpa using h1, ?_, h3⟩
        rw [h2]
        congr 1
        push_cast
        omega
      · refine Or.inr ⟨fun n hn => ?_, h2⟩
        cases n with
        | zero => simpa using hx
        | succ n =>
          have := h1 n (by simpa using hn)
          intro q
          apply this
          rw [q]
          congr 1
          push_cast
          omega
end XINV
theorem xk0_s {p : Nat} {l : xL} {s : List xV} {w : xW} {z : xNx} (h : xk0 p l s w = some z) : z = .inl (p, l, s, w) := (Option.some.inj h).symm
theorem xr0_s {r : Option xV} {w : xW} {z : xNx} (h : xr0 r w = some z) : z = .inr (r, w) := (Option.some.inj h).symm
theorem xobj_s {w : xW} {a c : Nat} {fs : List xV} (h : xobj w a c = some fs) : w.2.2.2 a = some (.inr (c, fs)) := by
  unfold xobj at h
  split at h
  · next c' fs' hm =>
    split at h
    · next hc => cases h; rw [hm, hc]
    · cases h
  · cases h
theorem xcno_s {w : xW} {a c : Nat} (h : xcno w a = some c) : ∃ fs, w.2.2.2 a = some (.inr (c, fs)) := by
  unfold xcno at h
  split at h
  · next c' fs' hm => cases h; exact ⟨_, hm⟩
  · cases h
theorem xgI_s {w : xW} {a c k : Nat} {x : Int32} (h : xgI w a c k = some x) : ∃ fs, w.2.2.2 a = some (.inr (c, fs)) ∧ fs[k]? = some (xI x) := by
  obtain ⟨fs, h1, h2⟩ := xbi_s h
  split at h2
  · next hk => cases h2; exact ⟨fs, xobj_s h1, hk⟩
  · cases h2
theorem xgJ_s {w : xW} {a c k : Nat} {x : Int64} (h : xgJ w a c k = some x) : ∃ fs, w.2.2.2 a = some (.inr (c, fs)) ∧ fs[k]? = some (xJ x) := by
  obtain ⟨fs, h1, h2⟩ := xbi_s h
  split at h2
  · next hk => cases h2; exact ⟨fs, xobj_s h1, hk⟩
  · cases h2
theorem xgD_s {w : xW} {a c k : Nat} {x : UInt64} (h : xgD w a c k = some x) : ∃ fs, w.2.2.2 a = some (.inr (c, fs)) ∧ fs[k]? = some (xD x) := by
  obtain ⟨fs, h1, h2⟩ := xbi_s h
  split at h2
  · next hk => cases h2; exact ⟨fs, xobj_s h1, hk⟩
  · cases h2
theorem xgA_s {w : xW} {a c k : Nat} {x : Option Nat} (h : xgA w a c k = some x) : ∃ fs, w.2.2.2 a = some (.inr (c, fs)) ∧ fs[k]? = some (xA x) := by
  obtain ⟨fs, h1, h2⟩ := xbi_s h
  split at h2
  · next hk => cases h2; exact ⟨fs, xobj_s h1, hk⟩
  · cases h2
theorem xput_s {w w' : xW} {a c k : Nat} {v : xV} (h : xput w a c k v = some w') : ∃ fs, w.2.2.2 a = some (.inr (c, fs)) ∧ k < fs.length ∧ w' = xset w a (.inr (c, fs.set k v)) := by
  obtain ⟨fs, h1, h2⟩ := xbi_s h
  split at h2
  · next hk => cases h2; exact ⟨fs, xobj_s h1, hk, rfl⟩
  · cases h2
theorem xin4_s {l : List (Nat × Nat × Nat × Nat × Nat)} {a b c d : Nat} (h : xin4 l a b c d = true) : ∃ p, (p, a, b, c, d) ∈ l := by
  obtain ⟨⟨p, q1, q2, q3, q4⟩, hq, h1⟩ := List.any_eq_true.mp h
  simp only [Bool.and_eq_true, beq_iff_eq] at h1
  obtain ⟨⟨⟨rfl, rfl⟩, rfl⟩, rfl⟩ := h1
  exact ⟨p, hq⟩
theorem xin3_s {l : List (Nat × Nat × Nat × Nat)} {a b c : Nat} (h : xin3 l a b c = true) : ∃ p, (p, a, b, c) ∈ l := by
  obtain ⟨⟨p, q1, q2, q3⟩, hq, h1⟩ := List.any_eq_true.mp h
  simp only [Bool.and_eq_true, beq_iff_eq] at h1
  obtain ⟨⟨rfl, rfl⟩, rfl⟩ := h1
  exact ⟨p, hq⟩
theorem xin2_s {l : List (Nat × Nat × Nat)} {a b : Nat} (h : xin2 l a b = true) : ∃ p, (p, a, b) ∈ l := by
  obtain ⟨⟨p, q1, q2⟩, hq, h1⟩ := List.any_eq_true.mp h
  simp only [Bool.and_eq_true, beq_iff_eq] at h1
  obtain ⟨rfl, rfl⟩ := h1
  exact ⟨p, hq⟩
theorem xin1_s {l : List (Nat × Nat)} {a : Nat} (h : xin1 l a = true) : ∃ p, (p, a) ∈ l := by
  obtain ⟨⟨p, q1⟩, hq, h1⟩ := List.any_eq_true.mp h
  simp only [beq_iff_eq] at h1
  subst h1
  exact ⟨p, hq⟩
theorem xinI_s {l : List (Nat × Nat × Nat × Int32)} {a b : Nat} {v : Int32} (h : xinK l a b v = true) : ∃ p, (p, a, b, v) ∈ l := by
  obtain ⟨⟨p, q1, q2, q3⟩, hq, h1⟩ := List.any_eq_true.mp h
  simp only [Bool.and_eq_true, beq_iff_eq] at h1
  obtain ⟨⟨rfl, rfl⟩, rfl⟩ := h1
  exact ⟨p, hq⟩
theorem xinJ_s {l : List (Nat × Nat × Nat × Int64)} {a b : Nat} {v : Int64} (h : xinK l a b v = true) : ∃ p, (p, a, b, v) ∈ l := by
  obtain ⟨⟨p, q1, q2, q3⟩, hq, h1⟩ := List.any_eq_true.mp h
  simp only [Bool.and_eq_true, beq_iff_eq] at h1
  obtain ⟨⟨rfl, rfl⟩, rfl⟩ := h1
  exact ⟨p, hq⟩
theorem xinF_s {l : List (Nat × Nat × Nat × UInt32)} {a b : Nat} {v : UInt32} (h : xinK l a b v = true) : ∃ p, (p, a, b, v) ∈ l := by
  obtain ⟨⟨p, q1, q2, q3⟩, hq, h1⟩ := List.any_eq_true.mp h
  simp only [Bool.and_eq_true, beq_iff_eq] at h1
  obtain ⟨⟨rfl, rfl⟩, rfl⟩ := h1
  exact ⟨p, hq⟩
theorem xinD_s {l : List (Nat × Nat × Nat × UInt64)} {a b : Nat} {v : UInt64} (h : xinK l a b v = true) : ∃ p, (p, a, b, v) ∈ l := by
  obtain ⟨⟨p, q1, q2, q3⟩, hq, h1⟩ := List.any_eq_true.mp h
  simp only [Bool.and_eq_true, beq_iff_eq] at h1
  obtain ⟨⟨rfl, rfl⟩, rfl⟩ := h1
  exact ⟨p, hq⟩
/-- sizes grow, the table stays -/
def xle (w w' : xW) : Prop := w.1 ≤ w'.1 ∧ w.2.1 ≤ w'.2.1 ∧ w'.2.2.1 = w.2.2.1
theorem xle_r (w : xW) : xle w w := ⟨Nat.le_refl _, Nat.le_refl _, rfl⟩
theorem xle_t {a b c : xW} (h : xle a b) (h2 : xle b c) : xle a c := ⟨Nat.le_trans h.1 h2.1, Nat.le_trans h.2.1 h2.2.1, h2.2.2.trans h.2.2⟩
theorem xle_set (w : xW) (a : Nat) (e : xE) : xle w (xset w a e) := ⟨Nat.le_refl _, Nat.le_refl _, rfl⟩
theorem xle_push (w : xW) (n : Nat) (e : xE) : xle w (xpush w n e) := ⟨Nat.le_succ _, Nat.le_add_right _ _, rfl⟩
/-- the pairs of the local variables -/
def xprs (l : xL) : List (Nat × Value) := (List.range l.length).filterMap fun i => match l[i]? with
  | some (some v) => some (i, xv v)
  | _ => none
theorem xprs_mem {l : xL} {i : Nat} {v : xV} (h : l[i]? = some (some v)) : (i, xv v) ∈ xprs l := by
  refine List.mem_filterMap.mpr ⟨i, List.mem_range.mpr (List.getElem?_eq_some_iff.mp h).1, ?_⟩
  rw [h]
theorem xprs_of {l : xL} {q : Nat × Value} (h : q ∈ xprs l) : ∃ v, l[q.1]? = some (some v) ∧ q.2 = xv v := by
  obtain ⟨i, -, hi⟩ := List.mem_filterMap.mp h
  split at hi
  · next v hv => cases hi; exact ⟨v, hv, rfl⟩
  · cases hi
theorem xLs_has {ls : Array Slot} {l : xL} (h : xLs ls l) : lv_has ls l.length (xprs l) := ⟨h.1, h.2.1, fun q hq => by
  obtain ⟨v, h1, h2⟩ := xprs_of hq
  rw [h2]
  exact h.2.2 q.1 v h1⟩
theorem xLs_1 {ls : Array Slot} {l : xL} {i : Nat} {v : xV} (hi : i < l.length) (h : lv_has ls l.length ((i, xv v) :: (xprs l).filter (fun q => !(q.1 == i) && !(q.1 + 1 == i && q.2.category == 2)))) : xLs ls (xs1 l i v) := by
  refine ⟨by rw [h.1]; unfold xs1; rw [List.length_set, xclr_len], h.2.1, fun j u hu => ?_⟩
  unfold xs1 at hu
  by_cases hj : j = i
  · subst hj
    rw [List.getElem?_set_self (by rw [xclr_len]; exact hi)] at hu
    cases hu
    exact h.2.2 (j, xv v) List.mem_cons_self
  · rw [List.getElem?_set_ne (Ne.symm hj)] at hu
    obtain ⟨h1, h2⟩ := xclr_get hu
    refine h.2.2 (j, xv u) (List.mem_cons_of_mem _ (List.mem_filter.mpr ⟨xprs_mem h1, ?_⟩))
    simp only [Bool.and_eq_true, Bool.not_eq_true', beq_eq_false_iff_ne, ne_eq, Bool.and_eq_false_iff]
    refine ⟨hj, ?_⟩
    by_cases hji : j + 1 = i
    · exact Or.inr (fun q => h2 ⟨hji, by rw [← xct_cat]; exact q⟩)
    · exact Or.inl hji
theorem xLs_2 {ls : Array Slot} {l : xL} {i : Nat} {v : xV} (hi : i + 1 < l.length) (h : lv_has ls l.length ((i, xv v) :: (xprs l).filter (fun q => !(q.1 == i) && (!(q.1 == i + 1) && !(q.1 + 1 == i && q.2.category == 2))))) : xLs ls (xs2 l i v) := by
  refine ⟨by rw [h.1]; unfold xs2; rw [List.length_set, List.length_set, xclr_len], h.2.1, fun j u hu => ?_⟩
  unfold xs2 at hu
  by_cases hj1 : j = i + 1
  · subst hj1
    rw [List.getElem?_set_self (by rw [List.length_set, xclr_len]; exact hi)] at hu
    cases hu
  · rw [List.getElem?_set_ne (Ne.symm hj1)] at hu
    by_cases hj : j = i
    · subst hj
      rw [List.getElem?_set_self (by rw [xclr_len]; omega)] at hu
      cases hu
      exact h.2.2 (j, xv v) List.mem_cons_self
    · rw [List.getElem?_set_ne (Ne.symm hj)] at hu
      obtain ⟨h1, h2⟩ := xclr_get hu
      refine h.2.2 (j, xv u) (List.mem_cons_of_mem _ (List.mem_filter.mpr ⟨xprs_mem h1, ?_⟩))
      simp only [Bool.and_eq_true, Bool.not_eq_true', beq_eq_false_iff_ne, ne_eq, Bool.and_eq_false_iff]
      refine ⟨hj, hj1, ?_⟩
      by_cases hji : j + 1 = i
      · exact Or.inr (fun q => h2 ⟨hji, by rw [← xct_cat]; exact q⟩)
      · exact Or.inl hji
theorem xs1_len (l : xL) (i : Nat) (v : xV) : (xs1 l i v).length = l.length := by unfold xs1; rw [List.length_set, xclr_len]
theorem xs2_len (l : xL) (i : Nat) (v : xV) : (xs2 l i v).length = l.length := by unfold xs2; rw [List.length_set, List.length_set, xclr_len]
theorem xwt_eq : ∀ st : List xV, ((st.map xv).map fun v => v.category).sum = xwt st
  | [] => rfl
  | v :: r => by
    simp only [List.map_cons, List.sum_cons, xwt]
    rw [xwt_eq r, xct_cat]
theorem xnlt {a b : Int32} : ¬ a < b ↔ b ≤ a := by
  rw [Int32.lt_iff_toInt_lt, Int32.le_iff_toInt_le]
  omega
theorem xnle {a b : Int32} : ¬ a ≤ b ↔ b < a := by
  rw [Int32.lt_iff_toInt_lt, Int32.le_iff_toInt_le]
  omega
end
section
/-! the machine does what the pure machine does: rows of heap and calls -/
def xSt (D : va_G) (z0 : Nat) (s : State) (w0 : xW) (H : Heap) (locs : List Loc) (cells slots : Nat) (w : xW) : Prop :=
  xP D z0 s w H ∧ va_S (fun q => z0 ≤ q) s.heap H locs ∧ w0.1 + cells = w.1 ∧ w0.2.1 + slots = w.2.1 ∧ w.2.2.1 = w0.2.2.1
def xCx (p : Program) (R : Room) (s : State) (m : MethodId) (meth : Method) (c : Code) (D : va_G) (z0 : Nat) (w0 : xW) (mi : Nat) : Prop :=
  p.tables.exec = Jvm.exec ∧ c.code = (xmi mi).2.2.1 ∧ c.maxLocals = xml mi ∧ s.vm.findClass (xcs (xmi mi).1) = some m.cls ∧ ((xmi mi).2.1.name = "<init>" → meth.name = "<init>") ∧ xTb D s ∧ xrk mi ≤ R.frames ∧ 38 * xrk mi ≤ R.locals ∧ va_Z "CoreBook" "HOMES" "[I" (.ref w0.2.2.1) (fun q => z0 ≤ q) s s.heap
def xWn (p : Program) (l : Launch) (e : Env) (R : Room) (s : State) (m : MethodId) (args : Array Value) (below : List Frame) (meth : Method) (c : Code) (Q : State → Prop) (D : va_G) (z0 : Nat) (w0 : xW) (n pc : Nat) (lo : xL) (st : List xV) (w : xW) : Prop :=
  lo.length = n → ∀ (ls : Array Slot) (H : Heap) (locs : List Loc) (cells slots : Nat), xLs ls lo → xSt D z0 s w0 H locs cells slots w → W p l e R s m args below meth c H locs cells slots Q (F0 m pc ls (st.map xv))
section XROW
variable {p : Program} {l : Launch} {e : Env} {R : Room} {s : State} {m : MethodId} {args : Array Value} {below : List Frame} {meth : Method} {c : Code} {Q : State → Prop} {D : va_G} {z0 : Nat} {w0 w w2 wE : xW} {mi n pc k a b o : Nat} {lo : xL} {st : List xV}
theorem xfl {mi k a b : Nat} (hT : xTb D s) (h : xin4 xkf (xmi mi).1 k a b = true) : (Cond.fieldLink (xcs (xmi mi).1) k (xTT a b).1 (xTT a b).2.1 (xTT a b).2.2.1).before args s = true := by
  obtain ⟨q, hq⟩ := xin4_s h
  exact xTb_word hT (xgd_at (xkf_ok _ hq) rfl) args
theorem xh_get {fs : List xV} {v : xV} (hC : xCx p R s m meth c D z0 w0 mi) (hd : decode (xmi mi).2.2.1 pc = .ok (.getfield k, 3)) (hin : xin4 xkf (xmi mi).1 k a b = true) (h8 : a < 8) (hk : b < (xdf a).length) (ho : w.2.2.2 o = some (.inr (a, fs))) (hv : fs[b]? = some v)
    (K : xWn p l e R s m args below meth c Q D z0 w0 n (pc + 3) lo (v :: st) w) : xWn p l e R s m args below meth c Q D z0 w0 n pc lo (xA (some o) :: st) w := by
  intro hn ls H locs cells slots hls hSt
  obtain ⟨hx, hb, -, hown, -, hT, -⟩ := hC
  have hP1 : va_P D xcl [(o, .inr (a, fs.map xv))] H := by
    intro i q hq
    match i, hq with
    | 0, hq => cases hq; exact (hSt.1.2.2 o _ ho).1
    | i + 1, hq => simp at hq
  exact va_get (Ts := xgd) hx hb (fun q hq => xTb_word hT hq args) (xlay h8) hown hT.2.1 hP1 0 rfl (xcl_at h8) b hk (xfl hT hin) (fun _ h => h) (v := xv v) (by rw [List.getElem?_map, hv]; rfl) hd (K hn ls H locs cells slots hls hSt)
theorem xfits {ty : FieldType} {v : xV} {cv : xV} (h : xtok ty (some cv) = true) (hk : ∃ f : xV → Nat, f cv = f v ∧ f (xI 0) = 0 ∧ (∀ x, f (xI x) = 0) ∧ (∀ x, f (xJ x) = 1) ∧ (∀ x, f (xF x) = 2) ∧ (∀ x, f (xD x) = 3) ∧ ∀ x, f (xA x) = 4) : narrow ty (xv v) = xv v ∧ fits ty (xv v) = true := by
  obtain ⟨f, h0, -, h1, h2, h3, h4, h5⟩ := hk
  obtain x | x | x | x | x := cv <;> obtain y | y | y | y | y := v <;> simp only [xtok, h1, h2, h3, h4, h5] at h h0 <;> try (exact absurd h0 (by decide))
  · rw [eq_of_beq h]; exact ⟨rfl, rfl⟩
  · rw [eq_of_beq h]; exact ⟨rfl, rfl⟩
  · cases h
  · rw [eq_of_beq h]; exact ⟨rfl, rfl⟩
  · cases ty <;> simp [FieldType.isReference] at h <;> cases y <;> exact ⟨rfl, rfl⟩
theorem xh_put {fs : List xV} {v : xV} (hC : xCx p R s m meth c D z0 w0 mi) (hd : decode (xmi mi).2.2.1 pc = .ok (.putfield k, 3)) (hin : xin4 xkf (xmi mi).1 k a b = true) (h8 : a < 8) (hk : b < (xdf a).length) (ho : w.2.2.2 o = some (.inr (a, fs))) (hl : b < fs.length) (hty : narrow (xYY a b) (xv v) = xv v ∧ fits (xYY a b) (xv v) = true) (hfin : (xTT a b).2.2.2 = false ∨ ((xmi mi).2.1.name = "<init>" ∧ (xTT a b).1 = xcs (xmi mi).1))
    (K : xWn p l e R s m args below meth c Q D z0 w0 n (pc + 3) lo st (xset w o (.inr (a, fs.set b v)))) : xWn p l e R s m args below meth c Q D z0 w0 n pc lo (v :: xA (some o) :: st) w := by
  intro hn ls H locs cells slots hls hSt
  obtain ⟨hx, hb, -, hown, hnm, hT, -⟩ := hC
  have hts : ∀ q ∈ xgd, q.before args s = true := fun q hq => xTb_word hT hq args
  have hin8 := xlay h8
  have hc := xcl_at h8
  have hap := va_apart (own := xcs a) hts hin8 (xYY a) (xtd h8) (xnm h8) hT.2.1 hc
  obtain ⟨r, h1, cell, q1, q2, q3, q4⟩ := (hSt.1.2.2 o _ ho).1
  have hr : r = (xcs a, xTT a, (xdf a).length) := Option.some.inj (h1.symm.trans hc)
  subst hr
  obtain ⟨hS, hfc, kC, hkC, hkind⟩ := hT.2.1.1 a _ hc
  obtain ⟨cf, kf, fi, f, hi, hsl⟩ := hS b hk
  have hst := (u_facts hfc hkC (u_lays hts hin8 hk) hi).1
  have hlay := hts _ (hin8 _ (u_in_lay hk))
  have hd2 := xtd h8 b hk
  have key : ∀ (H' : Heap), H'[o]? = some (cell.setSlot (D.2 a b) (xv v)) → H'.size = H.size → (∀ q : Nat, q ≠ o → H'[q]? = H[q]?) → xSt D z0 s w0 H' (locs ++ [⟨o, D.2 a b⟩]) cells slots (xset w o (.inr (a, fs.set b v))) := by
    intro H' e1 e2 e3
    obtain ⟨hP', hz⟩ := xP_set (e := .inr (a, fs.set b v)) hSt.1 ho (fun h => h.elim) e2 e3 ⟨_, hc, t_OB.to (V := updV (vp_V (fs.map xv)) b (xv v)) ⟨_, e1, q2, q3, t_set q4 hap hk (xv v)⟩ (fun j _ => by rw [vp_updV_set (by rw [List.length_map]; exact hl), List.map_set])⟩
    exact ⟨hP', hSt.2.1.put e2 e3 hz, hSt.2.2⟩
  rcases hfin with hfin | ⟨hin2, hdecl⟩
  · unfold u_lay at hlay
    rw [if_neg (by rw [hfin]; decide)] at hlay
    have h6 := u_store hfc hkC hkind hlay hi hd2 hty.1 hty.2
    refine W.putK hx hb (f := f) ⟨hown, xfl hT hin, ⟨_, _, _, hi⟩, hst⟩ (by rw [q2]; exact h6) q1 q3 (by rw [hsl]; exact k2_hasslot (q4 b hk)) rfl rfl hd fun H' e1 e2 e3 => ?_
    rw [hsl] at e1 ⊢
    exact K hn ls H' _ cells slots hls (key H' e1 e2 e3)
  · by_cases hf : (xTT a b).2.2.2 = true
    · unfold u_lay at hlay
      rw [if_pos hf] at hlay
      have hcf : m.cls = cf := by
        obtain ⟨_, _, c', _, _, _, -, -, hf', -, -, -, hown2, -⟩ := Cond.laysFinal_spec hlay
        have e1 : c' = cf := by have := hi.symm.trans hf'; simp at this; exact this.1.symm
        rw [hdecl] at hown2
        rw [← e1]; exact Option.some.inj (hown.symm.trans hown2)
      have h6 := u_fits hfc hkC hkind (Or.inr hlay) hi hd2 hty.1 hty.2
      refine W.putFinK hx hb hown (xfl hT hin) hi hst hcf (hnm hin2) (by rw [q2]; exact h6) q1 q3 (by rw [hsl]; exact k2_hasslot (q4 b hk)) rfl rfl hd fun H' e1 e2 e3 => ?_
      rw [hsl] at e1 ⊢
      exact K hn ls H' _ cells slots hls (key H' e1 e2 e3)
    · unfold u_lay at hlay
      rw [if_neg hf] at hlay
      have h6 := u_store hfc hkC hkind hlay hi hd2 hty.1 hty.2
      refine W.putK hx hb (f := f) ⟨hown, xfl hT hin, ⟨_, _, _, hi⟩, hst⟩ (by rw [q2]; exact h6) q1 q3 (by rw [hsl]; exact k2_hasslot (q4 b hk)) rfl rfl hd fun H' e1 e2 e3 => ?_
      rw [hsl] at e1 ⊢
      exact K hn ls H' _ cells slots hls (key H' e1 e2 e3)
theorem xh_gets (hC : xCx p R s m meth c D z0 w0 mi) (hd : decode (xmi mi).2.2.1 pc = .ok (.getstatic 240, 3)) (h6 : (xmi mi).1 = 6)
    (K : xWn p l e R s m args below meth c Q D z0 w0 n (pc + 3) lo (xA (some w.2.2.1) :: st) w) : xWn p l e R s m args below meth c Q D z0 w0 n pc lo st w := by
  intro hn ls H locs cells slots hls hSt
  obtain ⟨hx, hb, -, hown, -, hT, -, -, hZ⟩ := hC
  have hl : (Cond.fieldLink (xcs 6) 240 "CoreBook" "HOMES" "[I").before args s = true := xTb_word hT (xgd_at (i := 303) (by decide +kernel) rfl) args
  rw [h6] at hown
  refine va_gets (C := "CoreBook") (n := "HOMES") (d := "[I") (ref := "CoreBook") hx hb hZ hSt.2.1 hown hl (fun _ h => h) hd ?_
  have := K hn ls H locs cells slots hls hSt
  rw [List.map_cons, show xv (xA (some w.2.2.1)) = Value.ref w0.2.2.1 by rw [hSt.2.2.2.2]; rfl] at this
  exact this
theorem xh_new (hC : xCx p R s m meth c D z0 w0 mi) (hd : decode (xmi mi).2.2.1 pc = .ok (.new k, 3)) (hin : xin3 xkl (xmi mi).1 k a = true) (h8 : a < 8) (hle : xle (xpush w (xdf a).length (.inr (a, xdf a))) wE) (hE1 : wE.1 ≤ w0.1 + R.cells) (hE2 : wE.2.1 ≤ w0.2.1 + R.slots)
    (K : xWn p l e R s m args below meth c Q D z0 w0 n (pc + 3) lo (xA (some w.1) :: st) (xpush w (xdf a).length (.inr (a, xdf a)))) : xWn p l e R s m args below meth c Q D z0 w0 n pc lo st w := by
  intro hn ls H locs cells slots hls hSt
  obtain ⟨hx, hb, -, hown, -, hT, -⟩ := hC
  have hts : ∀ q ∈ xgd, q.before args s = true := fun q hq => xTb_word hT hq args
  obtain ⟨q, hq⟩ := xin3_s hin
  have hcl : (Cond.classLink (xcs (xmi mi).1) k (xcs a)).before args s = true := xTb_word hT (xgd_at (xkl_ok _ hq) rfl) args
  have hmt : ∃ i, (i, a) ∈ xkt := by
    match a, h8 with
    | 0, _ => exact ⟨_, List.mem_of_getElem? (i := 0) rfl⟩
    | 1, _ => exact ⟨_, List.mem_of_getElem? (i := 1) rfl⟩
    | 2, _ => exact ⟨_, List.mem_of_getElem? (i := 2) rfl⟩
    | 3, _ => exact ⟨_, List.mem_of_getElem? (i := 3) rfl⟩
    | 4, _ => exact ⟨_, List.mem_of_getElem? (i := 4) rfl⟩
    | 5, _ => exact ⟨_, List.mem_of_getElem? (i := 5) rfl⟩
    | 6, _ => exact ⟨_, List.mem_of_getElem? (i := 6) rfl⟩
    | 7, _ => exact ⟨_, List.mem_of_getElem? (i := 7) rfl⟩
  obtain ⟨i, hi⟩ := hmt
  have hinst : (Cond.instantiable (xcs a) (xdf a).length).before args s = true := xTb_word hT (xgd_at (xkt_ok _ hi) rfl) args
  have hmn : ∃ i, (i, a) ∈ xkn := by
    match a, h8 with
    | 0, _ => exact ⟨_, List.mem_of_getElem? (i := 0) rfl⟩
    | 1, _ => exact ⟨_, List.mem_of_getElem? (i := 1) rfl⟩
    | 2, _ => exact ⟨_, List.mem_of_getElem? (i := 2) rfl⟩
    | 3, _ => exact ⟨_, List.mem_of_getElem? (i := 3) rfl⟩
    | 4, _ => exact ⟨_, List.mem_of_getElem? (i := 4) rfl⟩
    | 5, _ => exact ⟨_, List.mem_of_getElem? (i := 5) rfl⟩
    | 6, _ => exact ⟨_, List.mem_of_getElem? (i := 6) rfl⟩
    | 7, _ => exact ⟨_, List.mem_of_getElem? (i := 7) rfl⟩
  obtain ⟨j, hj⟩ := hmn
  have hini : (Cond.initialized (xcs a)).before args s = true := xTb_word hT (xgd_at (xkn_ok _ hj) rfl) args
  have hc := xcl_at h8
  have hKn := hT.2.1.1 a _ hc
  have hs1 : w.1 + 1 ≤ wE.1 := hle.1
  have hs2 : w.2.1 + (xdf a).length ≤ wE.2.1 := hle.2.1
  have c1 := hSt.2.2.1
  have c2 := hSt.2.2.2.1
  refine W.newcK hx hb hown hcl hinst hini rfl hd (by omega) (by omega) hKn.2.1 rfl fun H1 kC hkC e1 z1 o1 => ?_
  have hP' := xP_push (n := (xdf a).length) (e := .inr (a, xdf a)) hSt.1 z1 o1 ⟨_, hc, (u_born (xYY a) hts (xlay h8) hKn hkC e1 (xtd h8)).to (xdv h8)⟩
  have hS' : va_S (fun q => z0 ≤ q) s.heap H1 locs := ⟨Nat.le_trans hSt.2.1.1 (by omega), fun x h1 h2 => (o1 x (Nat.lt_of_lt_of_le h1 hSt.2.1.1)).trans (hSt.2.1.2.1 x h1 h2), hSt.2.1.2.2⟩
  have := K hn ls H1 locs (cells + 1) (slots + (xdf a).length) hls ⟨hP', hS', by show _ = w.1 + 1; omega, by show _ = w.2.1 + _; omega, hSt.2.2.2.2⟩
  rw [List.map_cons, show xv (xA (some w.1)) = Value.ref H.size by rw [hSt.1.1]; rfl] at this
  exact this
/-- a new array of whole or broken numbers -/
theorem xh_newa {t : ArrayType} {nn : Int32} (hC : xCx p R s m meth c D z0 w0 mi) (hd : decode (xmi mi).2.2.1 pc = .ok (.newarray t, 2)) (ht : newarray.typeOf t = xty a) (ha : (Cond.arrayClass (xty a)) ∈ xgd) (ha4 : a < 4) (hb8 : componentBytes (xty a) ≤ 8) (hw : xnew w a nn = some w2) (hdef : ∀ j : Nat, defaultValue (xty a) = xval (xzero a) j) (hle : xle w2 wE) (hE1 : wE.1 ≤ w0.1 + R.cells) (hE2 : wE.2.1 ≤ w0.2.1 + R.slots)
    (K : xWn p l e R s m args below meth c Q D z0 w0 n (pc + 2) lo (xA (some w.1) :: st) w2) : xWn p l e R s m args below meth c Q D z0 w0 n pc lo (xI nn :: st) w := by
  intro hn ls H locs cells slots hls hSt
  obtain ⟨hx, hb, -, hown, -, hT, -⟩ := hC
  unfold xnew at hw
  split at hw
  · next hnn =>
    cases hw
    have hs1 : w.1 + 1 ≤ wE.1 := hle.1
    have hs2 : w.2.1 + nn.toNatClampNeg ≤ wE.2.1 := hle.2.1
    have c1 := hSt.2.2.1
    have c2 := hSt.2.2.2.1
    have hsm : nn.toNatClampNeg ≤ 65536 := by
      have h1 := hnn.2
      rw [Int32.le_iff_toInt_le] at h1
      have h2 : (65536 : Int32).toInt = 65536 := by decide
      have h3 : nn.toNatClampNeg = nn.toInt.toNat := rfl
      omega
    refine va_newaK hx hb (atype := t) (by rw [ht]; exact xTb_word hT ha args) rfl hd rfl hnn.1 rfl (by rw [ht]; exact Nat.le_trans (Nat.mul_le_mul hsm hb8) (by decide)) (by omega) (by omega) rfl fun H1 cA e1 z1 o1 hAr hNm => ?_
    rw [ht] at e1 hAr
    have hP' := xP_push (n := nn.toNatClampNeg) (e := .inl (a, nn.toNatClampNeg, xzero a)) hSt.1 z1 o1 ⟨_, e1, hAr _ _, fun h => by omega, by simp [arrV], ⟨Nat.le_of_eq (arrV_size _ _ _).symm, by rw [arrV_size] <;> rfl⟩, fun j hj => by rw [arrV_read _ _ hj, hdef j]⟩
    have hS' : va_S (fun q => z0 ≤ q) s.heap H1 locs := ⟨Nat.le_trans hSt.2.1.1 (by omega), fun x h1 h2 => (o1 x (Nat.lt_of_lt_of_le h1 hSt.2.1.1)).trans (hSt.2.1.2.1 x h1 h2), hSt.2.1.2.2⟩
    have := K hn ls H1 locs (cells + 1) (slots + nn.toNatClampNeg) hls ⟨hP', hS', by show _ = w.1 + 1; omega, by show _ = w.2.1 + _; omega, hSt.2.2.2.2⟩
    rw [List.map_cons, show xv (xA (some w.1)) = Value.ref H.size by rw [hSt.1.1]; rfl] at this
    exact this
  · cases hw
theorem xh_newq {nn : Int32} (hC : xCx p R s m meth c D z0 w0 mi) (hd : decode (xmi mi).2.2.1 pc = .ok (.anewarray k, 3)) (hin : xin3 xkq (xmi mi).1 k a = true) (ha : a = 4 ∨ a = 5 ∨ a = 6) (hw : xnew w a nn = some w2) (hle : xle w2 wE) (hE1 : wE.1 ≤ w0.1 + R.cells) (hE2 : wE.2.1 ≤ w0.2.1 + R.slots)
    (K : xWn p l e R s m args below meth c Q D z0 w0 n (pc + 3) lo (xA (some w.1) :: st) w2) : xWn p l e R s m args below meth c Q D z0 w0 n pc lo (xI nn :: st) w := by
  intro hn ls H locs cells slots hls hSt
  obtain ⟨hx, hb, -, hown, -, hT, -⟩ := hC
  obtain ⟨q, hq⟩ := xin3_s hin
  have hcl : (Cond.classLink (xcs (xmi mi).1) k (xqn a)).before args s = true := xTb_word hT (xgd_at (xkq_ok _ hq) rfl) args
  have hao : va_AO (xqn a) s := by
    rcases ha with rfl | rfl | rfl
    · exact hT.2.2.2.2.2.2.1
    · exact hT.2.2.2.2.2.2.2.1
    · exact hT.2.2.2.2.2.2.2.2.1
  have hty : xty a = .object (xqn a) := by rcases ha with rfl | rfl | rfl <;> rfl
  have hze : xzero a = .inr (.inr (.inr (.inr fun _ => none))) := by rcases ha with rfl | rfl | rfl <;> rfl
  unfold xnew at hw
  split at hw
  · next hnn =>
    cases hw
    have hs1 : w.1 + 1 ≤ wE.1 := hle.1
    have hs2 : w.2.1 + nn.toNatClampNeg ≤ wE.2.1 := hle.2.1
    have c1 := hSt.2.2.1
    have c2 := hSt.2.2.2.1
    have hsm : nn.toNatClampNeg ≤ 65536 := by
      have h1 := hnn.2
      rw [Int32.le_iff_toInt_le] at h1
      have h2 : (65536 : Int32).toInt = 65536 := by decide
      have h3 : nn.toNatClampNeg = nn.toInt.toNat := rfl
      omega
    refine W.anew hx hb hown hcl (va_AO.use hao) rfl hd rfl hnn.1 (by omega) (by omega) (by omega) fun cA kA comp f1 f2 f3 f4 => ?_
    generalize hH1 : H.push ({ cls := cA, slots := Array.replicate nn.toNatClampNeg .null, vm := .none } : Cell) = H1
    have z1 : H1.size = H.size + 1 := by rw [← hH1, Array.size_push]
    have e1 : H1[H.size]? = some (arrV cA nn.toNatClampNeg (fun _ => .null)) := by rw [← hH1, Array.getElem?_push_size, ← arrV_new]
    have o1 : ∀ q : Nat, q < H.size → H1[q]? = H[q]? := fun q hq => by rw [← hH1, Array.getElem?_push, if_neg (Nat.ne_of_lt hq)]
    have hAr : ArrOfT s cA (.object (xqn a)) := fun N z => ⟨(fun k h => by cases h), kA, f2, comp, f3⟩
    have hP' := xP_push (n := nn.toNatClampNeg) (e := .inl (a, nn.toNatClampNeg, xzero a)) hSt.1 z1 o1 ⟨_, e1, by rw [hty]; exact hAr _ _, fun _ _ => by rw [hty]; exact ⟨kA, comp, f2, f3, f4, f1⟩, by simp [arrV], ⟨Nat.le_of_eq (arrV_size _ _ _).symm, by rw [arrV_size] <;> rfl⟩, fun j hj => by rw [arrV_read _ _ hj, hze]; rfl⟩
    have hS' : va_S (fun q => z0 ≤ q) s.heap H1 locs := ⟨Nat.le_trans hSt.2.1.1 (by omega), fun x h1 h2 => (o1 x (Nat.lt_of_lt_of_le h1 hSt.2.1.1)).trans (hSt.2.1.2.1 x h1 h2), hSt.2.1.2.2⟩
    have := K hn ls H1 locs (cells + 1) (slots + nn.toNatClampNeg) hls ⟨hP', hS', by show _ = w.1 + 1; omega, by show _ = w.2.1 + _; omega, hSt.2.2.2.2⟩
    rw [List.map_cons, show xv (xA (some w.1)) = Value.ref H.size by rw [hSt.1.1]; rfl] at this
    exact this
  · cases hw
theorem xh_len {q : Nat × vp_A} (hC : xCx p R s m meth c D z0 w0 mi) (hd : decode (xmi mi).2.2.1 pc = .ok (.arraylength, 1)) (ho : w.2.2.2 o = some (.inl q))
    (K : xWn p l e R s m args below meth c Q D z0 w0 n (pc + 1) lo (xI (nI q.2.1) :: st) w) : xWn p l e R s m args below meth c Q D z0 w0 n pc lo (xA (some o) :: st) w := by
  intro hn ls H locs cells slots hls hSt
  obtain ⟨hx, hb, -⟩ := hC
  obtain ⟨cell, h1, h2, h3, h4, h5, h6⟩ := (hSt.1.2.2 o _ ho).1
  exact W.alen (n := nI q.2.1) hx hb h1 h2 h5.2 rfl rfl hd (K hn ls H locs cells slots hls hSt)
end XROW
end
section
/-! arrays, casts, calls -/
section XROW2
variable {p : Program} {l : Launch} {e : Env} {R : Room} {s : State} {m : MethodId} {args : Array Value} {below : List Frame} {meth : Method} {c : Code} {Q : State → Prop} {D : va_G} {z0 : Nat} {w0 w w2 wE : xW} {mi n pc k a b o : Nat} {lo : xL} {st : List xV}
theorem xh_ald {i : Int32} {x : Int32} (hC : xCx p R s m meth c D z0 w0 mi) (hd : decode (xmi mi).2.2.1 pc = .ok (.iaload, 1)) (h : xaI w o i = some x)
    (K : xWn p l e R s m args below meth c Q D z0 w0 n (pc + 1) lo (xI x :: st) w) : xWn p l e R s m args below meth c Q D z0 w0 n pc lo (xI i :: xA (some o) :: st) w := by
  intro hn ls H locs cells slots hls hSt
  obtain ⟨hx, hb, -⟩ := hC
  unfold xaI at h
  split at h
  · next k N f hm =>
    split at h
    · next hc =>
      cases h
      obtain ⟨hk, h0, hN⟩ := hc
      obtain ⟨cell, h1, h2, h3, h4, h5, h6⟩ := (hSt.1.2.2 o _ hm).1
      have hty : xty k = .int := by rcases hk with rfl | rfl <;> rfl
      refine W.iald hx hb h1 (by rw [← hty]; exact h2) h4 (fun q => q.elim h0 (fun q => absurd hN (Nat.not_lt.mpr (Nat.le_trans h5.1 q)))) (h6 _ hN) rfl rfl hd (K hn ls H locs cells slots hls hSt)
    · cases h
  · cases h
theorem xh_zld {i : Int32} {x : Int32} (hC : xCx p R s m meth c D z0 w0 mi) (hd : decode (xmi mi).2.2.1 pc = .ok (.baload, 1)) (h : xaZ w o i = some x)
    (K : xWn p l e R s m args below meth c Q D z0 w0 n (pc + 1) lo (xI x :: st) w) : xWn p l e R s m args below meth c Q D z0 w0 n pc lo (xI i :: xA (some o) :: st) w := by
  intro hn ls H locs cells slots hls hSt
  obtain ⟨hx, hb, -⟩ := hC
  unfold xaZ at h
  split at h
  · next k N f hm =>
    split at h
    · next hc =>
      cases h
      obtain ⟨hk, h0, hN⟩ := hc
      obtain ⟨cell, h1, h2, h3, h4, h5, h6⟩ := (hSt.1.2.2 o _ hm).1
      have hty : xty k = .boolean := by rw [hk]; rfl
      refine W.zald hx hb h1 (by rw [← hty]; exact h2) h4 (fun q => q.elim h0 (fun q => absurd hN (Nat.not_lt.mpr (Nat.le_trans h5.1 q)))) (h6 _ hN) rfl rfl hd (K hn ls H locs cells slots hls hSt)
    · cases h
  · cases h
theorem xh_jld {i : Int32} {x : Int64} (hC : xCx p R s m meth c D z0 w0 mi) (hd : decode (xmi mi).2.2.1 pc = .ok (.laload, 1)) (h : xaJ w o i = some x)
    (K : xWn p l e R s m args below meth c Q D z0 w0 n (pc + 1) lo (xJ x :: st) w) : xWn p l e R s m args below meth c Q D z0 w0 n pc lo (xI i :: xA (some o) :: st) w := by
  intro hn ls H locs cells slots hls hSt
  obtain ⟨hx, hb, -⟩ := hC
  unfold xaJ at h
  split at h
  · next k N f hm =>
    split at h
    · next hc =>
      cases h
      obtain ⟨hk, h0, hN⟩ := hc
      obtain ⟨cell, h1, h2, h3, h4, h5, h6⟩ := (hSt.1.2.2 o _ hm).1
      have hty : xty k = .long := by rw [hk]; rfl
      refine W.lald hx hb h1 (by rw [← hty]; exact h2) h4 (fun q => q.elim h0 (fun q => absurd hN (Nat.not_lt.mpr (Nat.le_trans h5.1 q)))) (h6 _ hN) rfl rfl hd (K hn ls H locs cells slots hls hSt)
    · cases h
  · cases h
theorem xh_dld {i : Int32} {x : UInt64} (hC : xCx p R s m meth c D z0 w0 mi) (hd : decode (xmi mi).2.2.1 pc = .ok (.daload, 1)) (h : xaD w o i = some x)
    (K : xWn p l e R s m args below meth c Q D z0 w0 n (pc + 1) lo (xD x :: st) w) : xWn p l e R s m args below meth c Q D z0 w0 n pc lo (xI i :: xA (some o) :: st) w := by
  intro hn ls H locs cells slots hls hSt
  obtain ⟨hx, hb, -⟩ := hC
  unfold xaD at h
  split at h
  · next k N f hm =>
    split at h
    · next hc =>
      cases h
      obtain ⟨hk, h0, hN⟩ := hc
      obtain ⟨cell, h1, h2, h3, h4, h5, h6⟩ := (hSt.1.2.2 o _ hm).1
      have hty : xty k = .double := by rw [hk]; rfl
      refine W.dald hx hb h1 (by rw [← hty]; exact h2) h4 (fun q => q.elim h0 (fun q => absurd hN (Nat.not_lt.mpr (Nat.le_trans h5.1 q)))) (h6 _ hN) rfl rfl hd (K hn ls H locs cells slots hls hSt)
    · cases h
  · cases h
theorem xh_ref {i : Int32} {x : Option Nat} (hC : xCx p R s m meth c D z0 w0 mi) (hd : decode (xmi mi).2.2.1 pc = .ok (.aaload, 1)) (h : xaA w o i = some x)
    (K : xWn p l e R s m args below meth c Q D z0 w0 n (pc + 1) lo (xA x :: st) w) : xWn p l e R s m args below meth c Q D z0 w0 n pc lo (xI i :: xA (some o) :: st) w := by
  intro hn ls H locs cells slots hls hSt
  obtain ⟨hx, hb, -⟩ := hC
  unfold xaA at h
  split at h
  · next k N f hm =>
    split at h
    · next hc =>
      cases h
      obtain ⟨hk, h0, hN⟩ := hc
      obtain ⟨cell, h1, h2, h3, h4, h5, h6⟩ := (hSt.1.2.2 o _ hm).1
      have hty : (xty k).isReference = true := by rcases hk with rfl | rfl | rfl <;> rfl
      exact W.aald hx hb h1 h2 hty h4 (fun q => q.elim h0 (fun q => absurd hN (Nat.not_lt.mpr (Nat.le_trans h5.1 q)))) (h6 _ hN) rfl rfl hd (K hn ls H locs cells slots hls hSt)
    · cases h
  · cases h
theorem xarC_set {s : State} {k N : Nat} {v v2 : (Nat → Int32) ⊕ (Nat → Int64) ⊕ (Nat → UInt32) ⊕ (Nat → UInt64) ⊕ (Nat → Option Nat)} {cell : Cell} {i : Nat} {x : Value} (h : xarC s k N v cell) (hi : i < N) (hv : ∀ j, j < N → xval v2 j = if j = i then x else xval v j) : xarC s k N v2 (cell.setSlot i x) := by
  obtain ⟨h2, h3, h4, h5, h6⟩ := h
  have hs : (cell.setSlot i x).slots = cell.slots.setIfInBounds i x := rfl
  refine ⟨h2, h3, h4, by rw [hs, Array.size_setIfInBounds]; exact h5, fun j hj => ?_⟩
  rw [hs, hv j hj]
  by_cases hji : j = i
  · subst hji
    rw [if_pos rfl, Array.getElem?_setIfInBounds_self_of_lt (Nat.lt_of_lt_of_le hj h5.1)]
  · rw [if_neg hji, Array.getElem?_setIfInBounds_ne (fun q => hji q.symm)]
    exact h6 j hj
theorem xh_ast {i : Int32} {x : Int32} (hC : xCx p R s m meth c D z0 w0 mi) (hd : decode (xmi mi).2.2.1 pc = .ok (.iastore, 1)) (h : xsI w o i x = some w2)
    (K : xWn p l e R s m args below meth c Q D z0 w0 n (pc + 1) lo st w2) : xWn p l e R s m args below meth c Q D z0 w0 n pc lo (xI x :: xI i :: xA (some o) :: st) w := by
  intro hn ls H locs cells slots hls hSt
  obtain ⟨hx, hb, -⟩ := hC
  unfold xsI at h
  split at h
  · next k N f hm =>
    split at h
    · next hc =>
      cases h
      obtain ⟨rfl, h0, hN⟩ := hc
      obtain ⟨cell, h1, hA⟩ := (hSt.1.2.2 o _ hm).1
      refine W.iast hx hb h1 hA.1 hA.2.2.1 (fun q => q.elim h0 (fun q => absurd hN (Nat.not_lt.mpr (Nat.le_trans hA.2.2.2.1.1 q)))) rfl rfl hd fun H' e1 e2 e3 => ?_
      have hat : xat D s o (.inl (0, N, .inl (va_up f i.toNatClampNeg x))) H' := ⟨_, e1, xarC_set hA hN (fun j _ => by
        by_cases hj : j = i.toNatClampNeg
        · simp [xval, va_up, hj]
        · simp [xval, va_up, hj])⟩
      obtain ⟨hP', hz⟩ := xP_set hSt.1 hm (by simp [xro]) e2 e3 hat
      exact K hn ls H' _ cells slots hls ⟨hP', hSt.2.1.put e2 e3 hz, hSt.2.2⟩
    · cases h
  · cases h
theorem xh_zst {i : Int32} {x : Int32} (hC : xCx p R s m meth c D z0 w0 mi) (hd : decode (xmi mi).2.2.1 pc = .ok (.bastore, 1)) (h : xsZ w o i x = some w2)
    (K : xWn p l e R s m args below meth c Q D z0 w0 n (pc + 1) lo st w2) : xWn p l e R s m args below meth c Q D z0 w0 n pc lo (xI x :: xI i :: xA (some o) :: st) w := by
  intro hn ls H locs cells slots hls hSt
  obtain ⟨hx, hb, -⟩ := hC
  unfold xsZ at h
  split at h
  · next k N f hm =>
    split at h
    · next hc =>
      cases h
      obtain ⟨rfl, h0, hN⟩ := hc
      obtain ⟨cell, h1, hA⟩ := (hSt.1.2.2 o _ hm).1
      refine W.zast hx hb h1 hA.1 hA.2.2.1 (fun q => q.elim h0 (fun q => absurd hN (Nat.not_lt.mpr (Nat.le_trans hA.2.2.2.1.1 q)))) rfl rfl hd fun H' e1 e2 e3 => ?_
      have hat : xat D s o (.inl (3, N, .inl (va_up f i.toNatClampNeg (vp_nar .boolean x)))) H' := ⟨_, e1, xarC_set hA hN (fun j _ => by
        by_cases hj : j = i.toNatClampNeg
        · simp [xval, va_up, hj, vp_nar, narrow]
        · simp [xval, va_up, hj])⟩
      obtain ⟨hP', hz⟩ := xP_set hSt.1 hm (by simp [xro]) e2 e3 hat
      exact K hn ls H' _ cells slots hls ⟨hP', hSt.2.1.put e2 e3 hz, hSt.2.2⟩
    · cases h
  · cases h
theorem xh_jst {i : Int32} {x : Int64} (hC : xCx p R s m meth c D z0 w0 mi) (hd : decode (xmi mi).2.2.1 pc = .ok (.lastore, 1)) (h : xsJ w o i x = some w2)
    (K : xWn p l e R s m args below meth c Q D z0 w0 n (pc + 1) lo st w2) : xWn p l e R s m args below meth c Q D z0 w0 n pc lo (xJ x :: xI i :: xA (some o) :: st) w := by
  intro hn ls H locs cells slots hls hSt
  obtain ⟨hx, hb, -⟩ := hC
  unfold xsJ at h
  split at h
  · next k N f hm =>
    split at h
    · next hc =>
      cases h
      obtain ⟨rfl, h0, hN⟩ := hc
      obtain ⟨cell, h1, hA⟩ := (hSt.1.2.2 o _ hm).1
      refine W.last hx hb h1 hA.1 hA.2.2.1 (fun q => q.elim h0 (fun q => absurd hN (Nat.not_lt.mpr (Nat.le_trans hA.2.2.2.1.1 q)))) rfl rfl hd fun H' e1 e2 e3 => ?_
      have hat : xat D s o (.inl (1, N, .inr (.inl (va_up f i.toNatClampNeg x)))) H' := ⟨_, e1, xarC_set hA hN (fun j _ => by
        by_cases hj : j = i.toNatClampNeg
        · simp [xval, va_up, hj]
        · simp [xval, va_up, hj])⟩
      obtain ⟨hP', hz⟩ := xP_set hSt.1 hm (by simp [xro]) e2 e3 hat
      exact K hn ls H' _ cells slots hls ⟨hP', hSt.2.1.put e2 e3 hz, hSt.2.2⟩
    · cases h
  · cases h
theorem xh_dst {i : Int32} {x : UInt64} (hC : xCx p R s m meth c D z0 w0 mi) (hd : decode (xmi mi).2.2.1 pc = .ok (.dastore, 1)) (h : xsD w o i x = some w2)
    (K : xWn p l e R s m args below meth c Q D z0 w0 n (pc + 1) lo st w2) : xWn p l e R s m args below meth c Q D z0 w0 n pc lo (xD x :: xI i :: xA (some o) :: st) w := by
  intro hn ls H locs cells slots hls hSt
  obtain ⟨hx, hb, -⟩ := hC
  unfold xsD at h
  split at h
  · next k N f hm =>
    split at h
    · next hc =>
      cases h
      obtain ⟨rfl, h0, hN⟩ := hc
      obtain ⟨cell, h1, hA⟩ := (hSt.1.2.2 o _ hm).1
      refine W.dast hx hb h1 hA.1 hA.2.2.1 (fun q => q.elim h0 (fun q => absurd hN (Nat.not_lt.mpr (Nat.le_trans hA.2.2.2.1.1 q)))) rfl rfl hd fun H' e1 e2 e3 => ?_
      have hat : xat D s o (.inl (2, N, .inr (.inr (.inr (.inl (va_up f i.toNatClampNeg x)))))) H' := ⟨_, e1, xarC_set hA hN (fun j _ => by
        by_cases hj : j = i.toNatClampNeg
        · simp [xval, va_up, hj]
        · simp [xval, va_up, hj])⟩
      obtain ⟨hP', hz⟩ := xP_set hSt.1 hm (by simp [xro]) e2 e3 hat
      exact K hn ls H' _ cells slots hls ⟨hP', hSt.2.1.put e2 e3 hz, hSt.2.2⟩
    · cases h
  · cases h
theorem xh_rst {i : Int32} {x : Nat} (hC : xCx p R s m meth c D z0 w0 mi) (hd : decode (xmi mi).2.2.1 pc = .ok (.aastore, 1)) (h : xsA w o i x = some w2)
    (K : xWn p l e R s m args below meth c Q D z0 w0 n (pc + 1) lo st w2) : xWn p l e R s m args below meth c Q D z0 w0 n pc lo (xA (some x) :: xI i :: xA (some o) :: st) w := by
  intro hn ls H locs cells slots hls hSt
  obtain ⟨hx, hb, -, -, -, hT, -⟩ := hC
  unfold xsA at h
  split at h
  · next k N f hm =>
    obtain ⟨cn, hcn, h⟩ := xbi_s h
    obtain ⟨fs, hfs⟩ := xcno_s hcn
    split at h
    · next hc =>
      cases h
      obtain ⟨hk, h0, hN⟩ := hc
      obtain ⟨cell, h1, hA⟩ := (hSt.1.2.2 o _ hm).1
      obtain ⟨r, hr, cv, g1, g2, g3, -⟩ := (hSt.1.2.2 x _ hfs).1
      have hkind : k = 4 ∧ (cn = 3 ∨ cn = 5) ∨ k = 5 ∧ cn = 5 ∨ k = 6 ∧ cn = 0 := by
        unfold xfit at hk
        simp only [Bool.or_eq_true, Bool.and_eq_true, beq_iff_eq] at hk
        rcases hk with (h | h) | h
        · exact Or.inl h
        · exact Or.inr (Or.inl h)
        · exact Or.inr (Or.inr h)
      have h8 : cn < 8 := by omega
      have hcls := (hT.2.1.1 cn _ (xcl_at h8)).2
      have hk46 : 4 ≤ k ∧ k ≤ 6 := by omega
      have hra := hA.2.1 hk46.1 hk46.2
      have hty : xty k = .object (xqn k) := by
        rcases hkind with ⟨rfl, -⟩ | ⟨rfl, -⟩ | ⟨rfl, -⟩ <;> rfl
      rw [hty] at hra
      obtain ⟨kA, comp, k1, k2, k3, -⟩ := hra
      obtain ⟨kC, hkC, -⟩ := hcls.2
      obtain ⟨kP, hkP, -⟩ := Vm.findClass_spec k3
      have hasg : s.vm.assignable cv.cls comp = true := by
        rw [g2]
        rcases hkind with ⟨rfl, rfl | rfl⟩ | ⟨rfl, rfl⟩ | ⟨rfl, rfl⟩
        · obtain ⟨c0, t0, f1, f2, f3⟩ := Cond.castable_spec hT.2.2.2.2.1.2.2.2.2
          have e1 : c0 = D.1 3 := Option.some.inj (f1.symm.trans hcls.1)
          have e2 : t0 = comp := Option.some.inj (f2.symm.trans k3)
          rw [← e1, ← e2]; exact f3
        · obtain ⟨c0, t0, f1, f2, f3⟩ := Cond.castable_spec hT.2.2.2.2.2.1.2.2.2.2
          have e1 : c0 = D.1 5 := Option.some.inj (f1.symm.trans hcls.1)
          have e2 : t0 = comp := Option.some.inj (f2.symm.trans k3)
          rw [← e1, ← e2]; exact f3
        · have e2 : comp = D.1 5 := Option.some.inj (k3.symm.trans hcls.1)
          rw [e2]; exact va_assign hcls
        · have e2 : comp = D.1 0 := Option.some.inj (k3.symm.trans hcls.1)
          rw [e2]; exact va_assign hcls
      refine W.aast hx hb h1 hA.1.1 hA.2.2.1 k1 k2 rfl hkP ⟨h0, Nat.lt_of_lt_of_le hN hA.2.2.2.1.1⟩ g1 (fun q h => by rw [g3] at h; cases h) (by rw [g2]; exact hkC) hasg rfl rfl hd fun H' e1 e2 e3 => ?_
      have hat : xat D s o (.inl (k, N, .inr (.inr (.inr (.inr (va_up f i.toNatClampNeg (some x))))))) H' := ⟨_, e1, xarC_set hA hN (fun j _ => by
        by_cases hj : j = i.toNatClampNeg
        · simp [xval, va_up, hj, va_rf]
        · simp [xval, va_up, hj])⟩
      obtain ⟨hP', hz⟩ := xP_set hSt.1 hm (by simp only [xro]; omega) e2 e3 hat
      exact K hn ls H' _ cells slots hls ⟨hP', hSt.2.1.put e2 e3 hz, hSt.2.2⟩
    · cases h
  · cases h
theorem xrecv {fs : List xV} (hT : xTb D s) {H : Heap} (hP : xP D z0 s w H) (ho : w.2.2.2 o = some (.inr (a, fs))) (h8 : a < 8) : ∃ cell : Cell, H[o]? = some cell ∧ cell.vm.isStatics = false ∧ s.vm.findClass (xcs a) = some cell.cls := by
  obtain ⟨r, h1, cell, g1, g2, g3, -⟩ := (hP.2.2 o _ ho).1
  exact ⟨cell, g1, by rw [g3]; rfl, by rw [g2]; exact (hT.2.1.1 a _ (xcl_at h8)).2.1⟩
theorem xh_cast {fs : List xV} (hC : xCx p R s m meth c D z0 w0 mi) (hd : decode (xmi mi).2.2.1 pc = .ok (.checkcast k, 3)) (hin : xin2 xka (xmi mi).1 k = true) (ho : w.2.2.2 o = some (.inr (3, fs)))
    (K : xWn p l e R s m args below meth c Q D z0 w0 n (pc + 3) lo (xA (some o) :: st) w) : xWn p l e R s m args below meth c Q D z0 w0 n pc lo (xA (some o) :: st) w := by
  intro hn ls H locs cells slots hls hSt
  obtain ⟨hx, hb, -, hown, -, hT, -⟩ := hC
  obtain ⟨q, hq⟩ := xin2_s hin
  have hcl : (Cond.classLink (xcs (xmi mi).1) k (xcs 3)).before args s = true := xTb_word hT (xgd_at (xka_ok _ hq) rfl) args
  exact va_castS hx hb hown hcl (hT.2.1.1 3 _ (xcl_at (by decide))).2 (xrecv hT hSt.1 ho (by decide)) hd (K hn ls H locs cells slots hls hSt)
theorem xh_isY {fs : List xV} (hC : xCx p R s m meth c D z0 w0 mi) (hd : decode (xmi mi).2.2.1 pc = .ok (.instanceof k, 3)) (hin : xin2 xka (xmi mi).1 k = true) (ho : w.2.2.2 o = some (.inr (3, fs)))
    (K : xWn p l e R s m args below meth c Q D z0 w0 n (pc + 3) lo (xI 1 :: st) w) : xWn p l e R s m args below meth c Q D z0 w0 n pc lo (xA (some o) :: st) w := by
  intro hn ls H locs cells slots hls hSt
  obtain ⟨hx, hb, -, hown, -, hT, -⟩ := hC
  obtain ⟨q, hq⟩ := xin2_s hin
  have hcl : (Cond.classLink (xcs (xmi mi).1) k (xcs 3)).before args s = true := xTb_word hT (xgd_at (xka_ok _ hq) rfl) args
  exact va_instS hx hb hown hcl (hT.2.1.1 3 _ (xcl_at (by decide))).2 (xrecv hT hSt.1 ho (by decide)) hd (K hn ls H locs cells slots hls hSt)
theorem xh_isN {fs : List xV} (hC : xCx p R s m meth c D z0 w0 mi) (hd : decode (xmi mi).2.2.1 pc = .ok (.instanceof k, 3)) (hin : xin2 xka (xmi mi).1 k = true) (ho : w.2.2.2 o = some (.inr (5, fs)))
    (K : xWn p l e R s m args below meth c Q D z0 w0 n (pc + 3) lo (xI 0 :: st) w) : xWn p l e R s m args below meth c Q D z0 w0 n pc lo (xA (some o) :: st) w := by
  intro hn ls H locs cells slots hls hSt
  obtain ⟨hx, hb, -, hown, -, hT, -⟩ := hC
  obtain ⟨q, hq⟩ := xin2_s hin
  have hcl : (Cond.classLink (xcs (xmi mi).1) k (xcs 3)).before args s = true := xTb_word hT (xgd_at (xka_ok _ hq) rfl) args
  exact va_instNo hx hb hown hcl hT.2.2.2.2.2.2.2.2.2 (xrecv hT hSt.1 ho (by decide)) hd (K hn ls H locs cells slots hls hSt)
end XROW2
end
section
/-! calls -/
theorem xkc_all {p y : Nat} (h : (p, y) ∈ xkc) : lw_tbl[p]? = some (.code (xmi y).2.1 (xmi y).2.2.1 (xml y) (xmi y).2.2.2) := by
  have e : xkc = xkc_0 ++ (xkc_1 ++ (xkc_2 ++ (xkc_3))) := rfl
  rw [e] at h
  have key : ∀ {L : List (Nat × Nat)}, L.map (fun q => lw_tbl[q.1]?) = L.map (fun q => some (.code (xmi q.2).2.1 (xmi q.2).2.2.1 (xml q.2) (xmi q.2).2.2.2)) → (p, y) ∈ L → lw_tbl[p]? = some (.code (xmi y).2.1 (xmi y).2.2.1 (xml y) (xmi y).2.2.2) := by
    intro L hL hm
    exact List.map_inj_left.mp hL (p, y) hm
  simp only [List.mem_append] at h
  rcases h with h | h | h | h
  · exact key xkc_ok_0 h
  · exact key xkc_ok_1 h
  · exact key xkc_ok_2 h
  · exact key xkc_ok_3 h
def xPc (D : va_G) (z0 : Nat) (w : xW) (U : State) : Prop := xTb D U ∧ va_Z "CoreBook" "HOMES" "[I" (.ref w.2.2.1) (fun q => z0 ≤ q) U U.heap ∧ xP D z0 U w U.heap
def xQc (D : va_G) (z0 : Nat) (r : Option xV) (w' : xW) : Array Value → State → Outcome → State → Prop := fun _ st oc t => (oc = .returned (r.map xv) ∧ xP D z0 t w' t.heap) ∧ va_F (fun q => z0 ≤ q) st t
def xwd (y : Nat) : List Cond := [.code (xmi y).2.1 (xmi y).2.2.1 (xml y) (xmi y).2.2.2]
def xrm (y : Nat) (w w' : xW) : Room := { frames := xrk y, cells := w'.1 - w.1, slots := w'.2.1 - w.2.1, locals := 38 * xrk y }
def xMt (l : Launch) (D : va_G) (z0 y : Nat) (as : List xV) (w : xW) (r : Option xV) (w' : xW) : Prop :=
  xle w w' ∧ Met l (xmi y).2.1 (xwd y) (xrm y w w') (va_Pc (as.map xv) (xPc D z0 w)) (xQc D z0 r w') (w'.1 - w.1) (w'.2.1 - w.2.1) (fun q => z0 ≤ q)
section XCALL
variable {p : Program} {l : Launch} {e : Env} {R : Room} {s : State} {m : MethodId} {args : Array Value} {below : List Frame} {meth : Method} {c : Code} {Q : State → Prop} {D : va_G} {z0 : Nat} {w0 w w2 wE : xW} {mi n pc k a b o y : Nat} {lo : xL} {st : List xV} {H : Heap} {locs : List Loc} {cells slots mc ms : Nat} {ls : Array Slot} {rest st0 : List Value} {r : Option xV}
theorem xblind {av : List Value} : FrameBlind (va_Pc av (xPc D z0 w)) := fun a U g mk h => ⟨h.1, xTb_moved (s := U) (U := U.calling g mk a) (State.WarmedH.refl U) h.2.1, va_Z.moved (u := U) (U := U.calling g mk a) (Vm.Alike.refl U.vm) h.2.2.1, xP_moved (s := U) (U := U.calling g mk a) (Vm.Alike.refl U.vm) h.2.2.2⟩
theorem xpre {av : List Value} (hC : xCx p R s m meth c D z0 w0 mi) (hSt : xSt D z0 s w0 H locs cells slots w) (U : State) (hU : U.heap = H) (hW : s.WarmedH U.vm) : va_Pc av (xPc D z0 w) av.toArray U := by
  obtain ⟨-, -, -, -, -, hT, -, -, hZ⟩ := hC
  refine ⟨rfl, xTb_moved hW hT, ?_, by rw [hU]; exact xP_moved hW.alike hSt.1⟩
  rw [hU, hSt.2.2.2.2]
  exact va_Z.moved hW.alike (va_Z.kept hZ (fun q h1 h2 => hSt.2.1.2.1 q h1 h2))
theorem xcs_mh (q : Nat) : xcs q ≠ "java/lang/invoke/MethodHandle" ∧ xcs q ≠ "java/lang/invoke/VarHandle" := by
  unfold xcs
  split <;> exact ⟨by decide, by decide⟩
theorem xarg_len {sig : MethodDescriptor} (h : parseMethodDescriptor (xmi y).2.1.desc = some sig) : xnar y = sig.parameters.length := by
  unfold xnar
  rw [h]
  rfl
theorem xcok_s (h : xcok mi y = true) : (∃ q, (q, y) ∈ xkc) ∧ xrk y < xrk mi ∧ xml y ≤ 19 ∧ (∃ q, (q, (xmi y).1) ∈ xkn) ∧ (xmi y).2.1.cls = xcs (xmi y).1 := by
  unfold xcok at h
  simp only [Bool.and_eq_true, beq_iff_eq, Nat.blt_eq, Nat.ble_eq] at h
  obtain ⟨⟨⟨⟨h1, h2⟩, h3⟩, h4⟩, h5⟩ := h
  exact ⟨xin1_s h1, h2, h3, xin1_s h4, h5⟩
/-- what every call asks of the tables and of the room -/
theorem xcb (hC : xCx p R s m meth c D z0 w0 mi) (h : xcok mi y = true) : (xrm y w w2).frames + 1 ≤ R.frames ∧ 8 + (xml y + 11) + (xrm y w w2).locals ≤ R.locals ∧ (∀ q ∈ xwd y, ∀ (a' : Array Value) (U : State), s.WarmedH U.vm → q.before a' U = true) ∧ Cond.code (xmi y).2.1 (xmi y).2.2.1 (xml y) (xmi y).2.2.2 ∈ xwd y ∧ (Cond.code (xmi y).2.1 (xmi y).2.2.1 (xml y) (xmi y).2.2.2).before args s = true ∧ (Cond.initialized (xmi y).2.1.cls).before args s = true ∧ ((xmi y).2.1.cls ≠ "java/lang/invoke/MethodHandle" ∧ (xmi y).2.1.cls ≠ "java/lang/invoke/VarHandle") := by
  obtain ⟨-, -, -, -, -, hT, hf, hl, -⟩ := hC
  obtain ⟨⟨q, hq⟩, h2, h3, ⟨i, hi⟩, h5⟩ := xcok_s h
  have hcw : Cond.code (xmi y).2.1 (xmi y).2.2.1 (xml y) (xmi y).2.2.2 ∈ xgd := xgd_at (xkc_all hq) rfl
  refine ⟨?_, ?_, ?_, List.mem_singleton.mpr rfl, xTb_word hT hcw args, ?_, ?_⟩
  · show xrk y + 1 ≤ _
    omega
  · show 8 + (xml y + 11) + 38 * xrk y ≤ _
    omega
  · intro z hz a' U hW
    rw [List.mem_singleton.mp hz]
    exact word_at hW (good_of_word (List.mem_filter.mp hcw).2) (hT.1 _ hcw)
  · rw [h5]
    exact xTb_word hT (xgd_at (xkn_ok _ hi) rfl) args
  · rw [h5]
    exact xcs_mh _
theorem xfin (hr : va_Run p l e R s m args below meth c H locs cells slots mc ms (F0 m pc ls st0) rest (fun st oc t => (oc = .returned (r.map xv) ∧ xP D z0 t w2 t.heap) ∧ va_F (fun q => z0 ≤ q) st t) (fun q => z0 ≤ q)) (hS : va_S (fun q => z0 ≤ q) s.heap H locs)
    (kk : ∀ (H1 : Heap) (locs1 : List Loc), xP D z0 s w2 H1 → va_S (fun q => z0 ≤ q) s.heap H1 locs1 → W p l e R s m args below meth c H1 locs1 (cells + mc) (slots + ms) Q (F0 m (pc + 3) ls ((r.map xv).toList ++ rest))) : W p l e R s m args below meth c H locs cells slots Q (F0 m pc ls st0) := by
  intro T hT X
  obtain ⟨v, st₀, t, T', L, h0, X', hL, e1, e2, ⟨⟨hv, hp⟩, hz, hk⟩, hst⟩ := hr T hT X
  cases hv
  rw [h0] at hz hk
  obtain ⟨t2, a1, b1⟩ := kk T'.heap (locs ++ L) (by rw [e1]; exact xP_moved (by rw [← e2]; exact X'.warmed.alike.symm) hp)
    ⟨Nat.le_trans hS.1 (by rw [e1]; exact hz), fun q h1 h2 => by rw [e1, hk q (Nat.lt_of_lt_of_le h1 hS.1) h2]; exact hS.2.1 q h1 h2, fun q hq => by
      rcases List.mem_append.mp hq with h | h
      · exact hS.2.2 q h
      · exact hL q h⟩ T' rfl X'
  exact ⟨t2, hst t2 a1, b1⟩
theorem xfin5 (hr : va_Run5 p l e R s m args below meth c H locs cells slots mc ms (F0 m pc ls st0) rest (fun st oc t => (oc = .returned (r.map xv) ∧ xP D z0 t w2 t.heap) ∧ va_F (fun q => z0 ≤ q) st t) (fun q => z0 ≤ q)) (hS : va_S (fun q => z0 ≤ q) s.heap H locs)
    (kk : ∀ (H1 : Heap) (locs1 : List Loc), xP D z0 s w2 H1 → va_S (fun q => z0 ≤ q) s.heap H1 locs1 → W p l e R s m args below meth c H1 locs1 (cells + mc) (slots + ms) Q (F0 m (pc + 5) ls ((r.map xv).toList ++ rest))) : W p l e R s m args below meth c H locs cells slots Q (F0 m pc ls st0) := by
  intro T hT X
  obtain ⟨v, st₀, t, T', L, h0, X', hL, e1, e2, ⟨⟨hv, hp⟩, hz, hk⟩, hst⟩ := hr T hT X
  cases hv
  rw [h0] at hz hk
  obtain ⟨t2, a1, b1⟩ := kk T'.heap (locs ++ L) (by rw [e1]; exact xP_moved (by rw [← e2]; exact X'.warmed.alike.symm) hp)
    ⟨Nat.le_trans hS.1 (by rw [e1]; exact hz), fun q h1 h2 => by rw [e1, hk q (Nat.lt_of_lt_of_le h1 hS.1) h2]; exact hS.2.1 q h1 h2, fun q hq => by
      rcases List.mem_append.mp hq with h | h
      · exact hS.2.2 q h
      · exact hL q h⟩ T' rfl X'
  exact ⟨t2, hst t2 a1, b1⟩
theorem xmapr (r : Option xV) (st : List xV) : (r.toList ++ st).map xv = (r.map xv).toList ++ st.map xv := by
  cases r <;> rfl
theorem xkkn {pc3 : Nat} (hn : lo.length = n) (hls : xLs ls lo) (hSt : xSt D z0 s w0 H locs cells slots w) (hle : xle w w2) (K : xWn p l e R s m args below meth c Q D z0 w0 n pc3 lo (r.toList ++ st) w2) : ∀ (H1 : Heap) (locs1 : List Loc), xP D z0 s w2 H1 → va_S (fun q => z0 ≤ q) s.heap H1 locs1 → W p l e R s m args below meth c H1 locs1 (cells + (w2.1 - w.1)) (slots + (w2.2.1 - w.2.1)) Q (F0 m pc3 ls ((r.map xv).toList ++ st.map xv)) := by
  intro H1 locs1 hP hS
  have h1 := hle.1
  have h2 := hle.2.1
  have c1 := hSt.2.2.1
  have c2 := hSt.2.2.2.1
  rw [← xmapr]
  exact K hn ls H1 locs1 _ _ hls ⟨hP, hS, by omega, by omega, hle.2.2.trans hSt.2.2.2.2⟩
theorem xroomf (hSt : xSt D z0 s w0 H locs cells slots w) (hle : xle w w2) (hle2 : xle w2 wE) (hE1 : wE.1 ≤ w0.1 + R.cells) (hE2 : wE.2.1 ≤ w0.2.1 + R.slots) : cells + (w2.1 - w.1) ≤ R.cells ∧ slots + (w2.2.1 - w.2.1) ≤ R.slots := by
  have h1 := hle.1
  have h2 := hle.2.1
  have h3 := hle2.1
  have h4 := hle2.2.1
  have c1 := hSt.2.2.1
  have c2 := hSt.2.2.2.1
  exact ⟨by omega, by omega⟩
theorem xroomw {as st : List xV} (h : xwt st ≤ 8) : 2 * (F0 m pc ls rest).monitorRoom + ((st.map xv).map fun v => v.category).sum ≤ 8 := by
  rw [xwt_eq]
  show 2 * 0 + _ ≤ 8
  omega
/-- a static call -/
theorem xh_calls {as : List xV} (hC : xCx p R s m meth c D z0 w0 mi) (hd : decode (xmi mi).2.2.1 pc = .ok (.invokestatic k, 3)) (hcok : xcok mi y = true) (hst : xin1 xks y = true) (hlen : as.length = xnar y) (hlk : xin3 xkm (xmi mi).1 k y = true ∨ ((xmi mi).1 = 3 ∧ k = 49 ∧ y = 72) ∨ ((xmi mi).1 = 3 ∧ k = 53 ∧ y = 71)) (hwt : xwt st ≤ 8) (hM : xMt l D z0 y as w r w2) (hle2 : xle w2 wE) (hE1 : wE.1 ≤ w0.1 + R.cells) (hE2 : wE.2.1 ≤ w0.2.1 + R.slots)
    (K : xWn p l e R s m args below meth c Q D z0 w0 n (pc + 3) lo (r.toList ++ st) w2) (hnn : n = xml mi) : xWn p l e R s m args below meth c Q D z0 w0 n pc lo (as.reverse ++ st) w := by
  intro hn ls H locs cells slots hls hSt
  obtain ⟨c1, c2, c3, c4, c5, c6, c7⟩ := xcb (args := args) (w := w) (w2 := w2) hC hcok
  have hC' := hC
  obtain ⟨hx, hb, hml, hown, -, hT, -⟩ := hC'
  have hsz : ls.size = xml mi := by rw [hls.1, hn, hnn]
  have hstk : (as.reverse ++ st).map xv = (as.map xv).reverse ++ st.map xv := by rw [List.map_append, List.map_reverse]
  obtain ⟨i, hi⟩ := xin1_s hst
  have hs : (Cond.static (xmi y).2.1).before args s = true := xTb_word hT (xgd_at (xks_ok _ hi) rfl) args
  refine xfin (r := r) (w2 := w2) (mc := w2.1 - w.1) (ms := w2.2.1 - w.2.1) (rest := st.map xv) ?_ hSt.2.1 (xkkn hn hls hSt hM.1 K)
  rcases hlk with hlk | hlk
  · obtain ⟨j, hj⟩ := xin3_s hlk
    exact va_runS (Ts := xgd) (As := as.map xv) ⟨hx, hb, hml, hown, fun q hq => xTb_word hT hq args⟩ hM.2 ⟨⟨rfl, rfl, c1, c2, c3, c4, c5, c6, c7, fun sig h => xarg_len h, xTb_word hT (xgd_at (xkm_ok _ hj) rfl) args⟩, hs⟩ ⟨xblind, xpre hC hSt⟩ rfl (by rw [List.length_map]; exact hlen) hsz hstk (xroomw (as := as) hwt) hd (xroomf hSt hM.1 hle2 hE1 hE2)
  · have hnl : ∃ host, va_Nw (.methodLinkNest (xcs (xmi mi).1) k (xmi y).2.1 host) s := by
      rcases hlk with ⟨h3, rfl, rfl⟩ | ⟨h3, rfl, rfl⟩
      · rw [h3]; exact ⟨_, hT.2.2.1⟩
      · rw [h3]; exact ⟨_, hT.2.2.2.1⟩
    obtain ⟨host, hnl⟩ := hnl
    exact va_runSN (Ts := xgd) (As := as.map xv) (host := host) ⟨hx, hb, hml, hown, fun q hq => xTb_word hT hq args⟩ hM.2 ⟨⟨⟨rfl, rfl, c1, c2, c3, c4⟩, c5, c6, c7, fun sig h => xarg_len h, va_Nw.use rfl hnl⟩, hs, trivial⟩ ⟨xblind, xpre hC hSt⟩ rfl (by rw [List.length_map]; exact hlen) hsz hstk (xroomw (as := as) hwt) hd (xroomf hSt hM.1 hle2 hE1 hE2)
theorem xstk (as st : List xV) (o : Nat) : ((xA (some o) :: as).reverse ++ st).map xv = (as.map xv).reverse ++ Value.ref o :: st.map xv := by
  rw [List.reverse_cons, List.append_assoc, List.map_append, List.map_reverse]
  rfl
/-- a call on an object -/
theorem xh_callv {as fs : List xV} (hC : xCx p R s m meth c D z0 w0 mi) (hd : decode (xmi mi).2.2.1 pc = .ok (.invokevirtual k, 3)) (hcok : xcok mi y = true) (hin : xin1 xki y = true) (hse : xin1 xkv y = true) (hlen : as.length = xnar y) (hlk : xin3 xkm (xmi mi).1 k y = true) (h8 : (xmi y).1 < 8) (ho : w.2.2.2 o = some (.inr ((xmi y).1, fs))) (hwt : xwt st ≤ 8) (hM : xMt l D z0 y (xA (some o) :: as) w r w2) (hle2 : xle w2 wE) (hE1 : wE.1 ≤ w0.1 + R.cells) (hE2 : wE.2.1 ≤ w0.2.1 + R.slots)
    (K : xWn p l e R s m args below meth c Q D z0 w0 n (pc + 3) lo (r.toList ++ st) w2) (hnn : n = xml mi) : xWn p l e R s m args below meth c Q D z0 w0 n pc lo ((xA (some o) :: as).reverse ++ st) w := by
  intro hn ls H locs cells slots hls hSt
  obtain ⟨c1, c2, c3, c4, c5, c6, c7⟩ := xcb (args := args) (w := w) (w2 := w2) hC hcok
  have hC' := hC
  obtain ⟨hx, hb, hml, hown, -, hT, -⟩ := hC'
  have hsz : ls.size = xml mi := by rw [hls.1, hn, hnn]
  obtain ⟨i, hi⟩ := xin1_s hin
  obtain ⟨i2, hi2⟩ := xin1_s hse
  obtain ⟨j, hj⟩ := xin3_s hlk
  refine xfin (r := r) (w2 := w2) (mc := w2.1 - w.1) (ms := w2.2.1 - w.2.1) (rest := st.map xv) ?_ hSt.2.1 (xkkn hn hls hSt hM.1 K)
  exact va_runV (Ts := xgd) (C := xcs (xmi y).1) (As := as.map xv) (b := o) ⟨hx, hb, hml, hown, fun q hq => xTb_word hT hq args⟩ hM.2 ⟨⟨rfl, rfl, c1, c2, c3, c4, c5, c6, c7, fun sig h => xarg_len h, xTb_word hT (xgd_at (xkm_ok _ hj) rfl) args⟩, xTb_word hT (xgd_at (xki_ok _ hi) rfl) args, xTb_word hT (xgd_at (xkv_ok _ hi2) rfl) args⟩ ⟨xblind, xrecv hT hSt.1 ho h8, xpre hC hSt⟩ rfl (by rw [List.length_map]; exact hlen) hsz (xstk as st o) (xroomw (as := as) hwt) hd (xroomf hSt hM.1 hle2 hE1 hE2)
/-- a constructor -/
theorem xh_calli {as : List xV} (hC : xCx p R s m meth c D z0 w0 mi) (hd : decode (xmi mi).2.2.1 pc = .ok (.invokespecial k, 3)) (hcok : xcok mi y = true) (hin : xin1 xki y = true) (hlen : as.length = xnar y) (hlk : xin3 xkm (xmi mi).1 k y = true) (hnm : (xmi y).2.1.name = "<init>") (hre : (xmi y).2.2.2 = none) (hwt : xwt st ≤ 8) (hM : xMt l D z0 y (xA (some o) :: as) w r w2) (hle2 : xle w2 wE) (hE1 : wE.1 ≤ w0.1 + R.cells) (hE2 : wE.2.1 ≤ w0.2.1 + R.slots)
    (K : xWn p l e R s m args below meth c Q D z0 w0 n (pc + 3) lo (r.toList ++ st) w2) (hnn : n = xml mi) : xWn p l e R s m args below meth c Q D z0 w0 n pc lo ((xA (some o) :: as).reverse ++ st) w := by
  intro hn ls H locs cells slots hls hSt
  obtain ⟨c1, c2, c3, c4, c5, c6, c7⟩ := xcb (args := args) (w := w) (w2 := w2) hC hcok
  have hC' := hC
  obtain ⟨hx, hb, hml, hown, -, hT, -⟩ := hC'
  have hsz : ls.size = xml mi := by rw [hls.1, hn, hnn]
  obtain ⟨i, hi⟩ := xin1_s hin
  obtain ⟨j, hj⟩ := xin3_s hlk
  refine xfin (r := r) (w2 := w2) (mc := w2.1 - w.1) (ms := w2.2.1 - w.2.1) (rest := st.map xv) ?_ hSt.2.1 (xkkn hn hls hSt hM.1 K)
  rw [hre] at c4 c5
  exact va_runI (Ts := xgd) (As := as.map xv) (b := o) ⟨hx, hb, hml, hown, fun q hq => xTb_word hT hq args⟩ hM.2 ⟨⟨rfl, rfl, c1, c2, c3, c4, c5, c6, c7, fun sig h => xarg_len h, xTb_word hT (xgd_at (xkm_ok _ hj) rfl) args⟩, hnm, xTb_word hT (xgd_at (xki_ok _ hi) rfl) args⟩ ⟨xblind, xpre hC hSt⟩ rfl (by rw [List.length_map]; exact hlen) hsz (xstk as st o) (xroomw (as := as) hwt) hd (xroomf hSt hM.1 hle2 hE1 hE2)
/-- a call through the interface -/
theorem xh_callf {fs : List xV} {cnt cn : Nat} (hC : xCx p R s m meth c D z0 w0 mi) (hd : decode (xmi mi).2.2.1 pc = .ok (.invokeinterface 233 cnt, 5)) (h6 : (xmi mi).1 = 6) (hcok : xcok mi y = true) (hin : xin1 xki y = true) (hcy : (cn = 3 ∧ y = 18) ∨ (cn = 5 ∧ y = 34)) (ho : w.2.2.2 o = some (.inr (cn, fs))) (hwt : xwt st ≤ 8) (hM : xMt l D z0 y [xA (some o)] w r w2) (hle2 : xle w2 wE) (hE1 : wE.1 ≤ w0.1 + R.cells) (hE2 : wE.2.1 ≤ w0.2.1 + R.slots)
    (K : xWn p l e R s m args below meth c Q D z0 w0 n (pc + 5) lo (r.toList ++ st) w2) (hnn : n = xml mi) : xWn p l e R s m args below meth c Q D z0 w0 n pc lo (xA (some o) :: st) w := by
  intro hn ls H locs cells slots hls hSt
  obtain ⟨c1, c2, c3, c4, c5, c6, c7⟩ := xcb (args := args) (w := w) (w2 := w2) hC hcok
  have hC' := hC
  obtain ⟨hx, hb, hml, hown, -, hT, -⟩ := hC'
  have hsz : ls.size = xml mi := by rw [hls.1, hn, hnn]
  obtain ⟨i, hi⟩ := xin1_s hin
  rw [h6] at hown
  have hF : va_Fw (xcs cn) xhc (xmi y).2.1 s ∧ (Cond.selects (xcs cn) xhc (xmi y).2.1).before args s = true ∧ cn < 8 := by
    rcases hcy with ⟨rfl, rfl⟩ | ⟨rfl, rfl⟩
    · exact ⟨hT.2.2.2.2.1, xTb_word hT (xgd_at (i := 255) (by decide +kernel) rfl) args, by decide⟩
    · exact ⟨hT.2.2.2.2.2.1, xTb_word hT (xgd_at (i := 261) (by decide +kernel) rfl) args, by decide⟩
  have hlk : (Cond.methodLink (xcs 6) 233 xhc).before args s = true := xTb_word hT (xgd_at (i := 251) (by decide +kernel) rfl) args
  refine xfin5 (r := r) (w2 := w2) (mc := w2.1 - w.1) (ms := w2.2.1 - w.2.1) (rest := st.map xv) ?_ hSt.2.1 (xkkn hn hls hSt hM.1 K)
  exact va_runF (Ts := xgd) (C := xcs cn) (x := xhc) (As := []) (n := 0) (b := o) (hT.2.1.1 cn _ (xcl_at hF.2.2)).2 ⟨hx, hb, hml, hown, fun q hq => xTb_word hT hq args⟩ hM.2 ⟨⟨rfl, rfl, c1, c2, c3, c4⟩, hlk, va_any rfl hF.1.1, va_any rfl hF.1.2.1, hF.2.1, xTb_word hT (xgd_at (xki_ok _ hi) rfl) args, va_any rfl hF.1.2.2.1, va_any rfl hF.1.2.2.2.1, va_any rfl hF.1.2.2.2.2, c6, c5, by decide +kernel, fun sig h => by
    have e : parseMethodDescriptor xhc.desc = some sig := h
    have e2 : (parseMethodDescriptor xhc.desc).map (fun d => d.parameters.length) = some 0 := by decide +kernel
    rw [e] at e2
    exact (Option.some.inj e2).symm⟩ ⟨xblind, xrecv hT hSt.1 ho hF.2.2, xpre hC hSt⟩ rfl rfl hsz rfl (xroomw (as := st) hwt) hd (xroomf hSt hM.1 hle2 hE1 hE2)
/-- the constructor of Object -/
theorem xh_obj (hC : xCx p R s m meth c D z0 w0 mi) (hd : decode (xmi mi).2.2.1 pc = .ok (.invokespecial k, 3)) (hlk : xin2 xko (xmi mi).1 k = true) (hrk : 0 < xrk mi) (hwt : xwt st ≤ 8) (hnn : n = xml mi)
    (K : xWn p l e R s m args below meth c Q D z0 w0 n (pc + 3) lo st w) : xWn p l e R s m args below meth c Q D z0 w0 n pc lo (xA (some o) :: st) w := by
  intro hn ls H locs cells slots hls hSt
  obtain ⟨hx, hb, hml, hown, -, hT, hf, hl, -⟩ := hC
  obtain ⟨j, hj⟩ := xin2_s hlk
  refine W.objInit (a := o) (rest := st.map xv) hx hb hown (xTb_word hT (xgd_at (xko_ok _ hj) rfl) args) (xTb_word hT (xgd_at (i := 52) (by decide +kernel) rfl) args) (xTb_word hT (xgd_at (i := 53) (by decide +kernel) rfl) args) rfl (by rw [hml, ← hnn, ← hn]; exact hls.1) rfl hd (by omega) ?_ (K hn ls H locs cells slots hls hSt)
  rw [xwt_eq]
  show 2 * 0 + _ + 12 ≤ _
  omega
end XCALL
end
section
/-! every instruction -/
theorem xbv {u v : xV} (h : (u == v) = true) : u = v := by
  obtain x | x | x | x | x := u <;> obtain y | y | y | y | y := v <;> first
    | (cases h; done)
    | exact congrArg (fun q => (Sum.inl q : xV)) (eq_of_beq (show (x == y) = true from h))
    | exact congrArg (fun q => (Sum.inr (Sum.inl q) : xV)) (eq_of_beq (show (x == y) = true from h))
    | exact congrArg (fun q => (Sum.inr (Sum.inr (Sum.inl q)) : xV)) (eq_of_beq (show (x == y) = true from h))
    | exact congrArg (fun q => (Sum.inr (Sum.inr (Sum.inr (Sum.inl q))) : xV)) (eq_of_beq (show (x == y) = true from h))
    | exact congrArg (fun q => (Sum.inr (Sum.inr (Sum.inr (Sum.inr q))) : xV)) (eq_of_beq (show (x == y) = true from h))
theorem xbq {c d : Option xV} (h : (c == d) = true) : c = d := by
  cases c with
  | none => cases d with
    | none => rfl
    | some v => cases h
  | some u => cases d with
    | none => cases h
    | some v => exact congrArg some (xbv (show (u == v) = true from h))
def xri : Option xV → Instr
  | none => .return_
  | some (.inl _) => .ireturn
  | some (.inr (.inl _)) => .lreturn
  | some (.inr (.inr (.inl _))) => .freturn
  | some (.inr (.inr (.inr (.inl _)))) => .dreturn
  | some (.inr (.inr (.inr (.inr _)))) => .areturn
def xrt (rt : Option FieldType) : Option xV → Prop
  | none => rt = none
  | some (.inl x) => rt = some .int ∨ (rt = some .boolean ∧ x &&& 1 = x)
  | some (.inr (.inl _)) => rt = some .long
  | some (.inr (.inr (.inl _))) => False
  | some (.inr (.inr (.inr (.inl _)))) => rt = some .double
  | some (.inr (.inr (.inr (.inr _)))) => ∃ q, rt = some (.object q)
def xwz : xNx → xW
  | .inl q => q.2.2.2
  | .inr q => q.2
def xKz (p : Program) (l : Launch) (e : Env) (R : Room) (s : State) (m : MethodId) (args : Array Value) (below : List Frame) (meth : Method) (c : Code) (Q : State → Prop) (D : va_G) (z0 : Nat) (w0 : xW) (n mi : Nat) : xNx → Prop
  | .inl q => xWn p l e R s m args below meth c Q D z0 w0 n q.1 q.2.1 q.2.2.1 q.2.2.2
  | .inr q => ∀ (pc : Nat) (ls : Array Slot) (H : Heap) (locs : List Loc) (cells slots : Nat), xSt D z0 s w0 H locs cells slots q.2 → decode (xmi mi).2.2.1 pc = .ok (xri q.1, 1) → xrt (xmi mi).2.2.2 q.1 → W p l e R s m args below meth c H locs cells slots Q (F0 m pc ls (q.1.map xv).toList)
def xG (p : Program) (l : Launch) (e : Env) (R : Room) (s : State) (m : MethodId) (args : Array Value) (below : List Frame) (meth : Method) (c : Code) (Q : State → Prop) (D : va_G) (z0 : Nat) (w0 wE : xW) (n mi pc : Nat) (lo : xL) (st : List xV) (w : xW) (z : xNx) : Prop :=
  xle w (xwz z) ∧ (xle (xwz z) wE → wE.1 ≤ w0.1 + R.cells → wE.2.1 ≤ w0.2.1 + R.slots → xKz p l e R s m args below meth c Q D z0 w0 n mi z → xWn p l e R s m args below meth c Q D z0 w0 n pc lo st w)
section XZ
variable {p : Program} {l : Launch} {e : Env} {R : Room} {s : State} {m : MethodId} {args : Array Value} {below : List Frame} {meth : Method} {c : Code} {Q : State → Prop} {D : va_G} {z0 : Nat} {w0 w wE : xW} {mi n pc len a b : Nat} {cv : Option xV} {mm : List Bool} {lo : xL} {st : List xV} {cal : Nat → List xV → xW → Option xR} {z : xNx}
theorem xz_iconst {q : Int} (hC : xCx p R s m meth c D z0 w0 mi) (hn : n = xml mi) (hk : xchk mi pc ((.iconst q), len, a, b, cv, mm) = true) (h : xexec cal (.iconst q) pc len a b cv lo st w xk0 xr0 = some z) : xG p l e R s m args below meth c Q D z0 w0 wE n mi pc lo st w z := by
  simp only [xchk, Bool.and_eq_true, decide_eq_true_eq, beq_iff_eq] at hk
  simp only [xexec] at h
  obtain ⟨⟨hd, -⟩, rfl, hv⟩ := hk
  have hv := xbq hv
  subst hv
  obtain ⟨v, hv, h⟩ := xcv_s h
  cases hv
  obtain rfl := xk0_s h
  exact ⟨xle_r _, fun _ _ _ K hn1 ls H locs cells slots hls hSt => lv_iconst hC.1 hC.2.1 hd rfl (K hn1 ls H locs cells slots hls hSt)⟩
theorem xz_bipush {q : Int} (hC : xCx p R s m meth c D z0 w0 mi) (hn : n = xml mi) (hk : xchk mi pc ((.bipush q), len, a, b, cv, mm) = true) (h : xexec cal (.bipush q) pc len a b cv lo st w xk0 xr0 = some z) : xG p l e R s m args below meth c Q D z0 w0 wE n mi pc lo st w z := by
  simp only [xchk, Bool.and_eq_true, decide_eq_true_eq, beq_iff_eq] at hk
  simp only [xexec] at h
  obtain ⟨⟨hd, -⟩, rfl, hv⟩ := hk
  have hv := xbq hv
  subst hv
  obtain ⟨v, hv, h⟩ := xcv_s h
  cases hv
  obtain rfl := xk0_s h
  exact ⟨xle_r _, fun _ _ _ K hn1 ls H locs cells slots hls hSt => lv_bipush hC.1 hC.2.1 hd rfl (K hn1 ls H locs cells slots hls hSt)⟩
theorem xz_sipush {q : Int} (hC : xCx p R s m meth c D z0 w0 mi) (hn : n = xml mi) (hk : xchk mi pc ((.sipush q), len, a, b, cv, mm) = true) (h : xexec cal (.sipush q) pc len a b cv lo st w xk0 xr0 = some z) : xG p l e R s m args below meth c Q D z0 w0 wE n mi pc lo st w z := by
  simp only [xchk, Bool.and_eq_true, decide_eq_true_eq, beq_iff_eq] at hk
  simp only [xexec] at h
  obtain ⟨⟨hd, -⟩, rfl, hv⟩ := hk
  have hv := xbq hv
  subst hv
  obtain ⟨v, hv, h⟩ := xcv_s h
  cases hv
  obtain rfl := xk0_s h
  exact ⟨xle_r _, fun _ _ _ K hn1 ls H locs cells slots hls hSt => lv_sipush hC.1 hC.2.1 hd rfl (K hn1 ls H locs cells slots hls hSt)⟩
theorem xz_lconst {q : Fin 2} (hC : xCx p R s m meth c D z0 w0 mi) (hn : n = xml mi) (hk : xchk mi pc ((.lconst q), len, a, b, cv, mm) = true) (h : xexec cal (.lconst q) pc len a b cv lo st w xk0 xr0 = some z) : xG p l e R s m args below meth c Q D z0 w0 wE n mi pc lo st w z := by
  simp only [xchk, Bool.and_eq_true, decide_eq_true_eq, beq_iff_eq] at hk
  simp only [xexec] at h
  obtain ⟨⟨hd, -⟩, rfl, hv⟩ := hk
  have hv := xbq hv
  subst hv
  obtain ⟨v, hv, h⟩ := xcv_s h
  cases hv
  obtain rfl := xk0_s h
  exact ⟨xle_r _, fun _ _ _ K hn1 ls H locs cells slots hls hSt => lv_lconst hC.1 hC.2.1 hd rfl (K hn1 ls H locs cells slots hls hSt)⟩
theorem xz_fconst {q : Fin 3} (hC : xCx p R s m meth c D z0 w0 mi) (hn : n = xml mi) (hk : xchk mi pc ((.fconst q), len, a, b, cv, mm) = true) (h : xexec cal (.fconst q) pc len a b cv lo st w xk0 xr0 = some z) : xG p l e R s m args below meth c Q D z0 w0 wE n mi pc lo st w z := by
  simp only [xchk, Bool.and_eq_true, decide_eq_true_eq, beq_iff_eq] at hk
  simp only [xexec] at h
  obtain ⟨⟨hd, -⟩, ⟨rfl, rfl⟩, hv⟩ := hk
  have hv := xbq hv
  subst hv
  obtain ⟨v, hv, h⟩ := xcv_s h
  cases hv
  obtain rfl := xk0_s h
  exact ⟨xle_r _, fun _ _ _ K hn1 ls H locs cells slots hls hSt => lv_fconst0 hC.1 hC.2.1 hd (K hn1 ls H locs cells slots hls hSt)⟩
theorem xz_dconst {q : Fin 2} (hC : xCx p R s m meth c D z0 w0 mi) (hn : n = xml mi) (hk : xchk mi pc ((.dconst q), len, a, b, cv, mm) = true) (h : xexec cal (.dconst q) pc len a b cv lo st w xk0 xr0 = some z) : xG p l e R s m args below meth c Q D z0 w0 wE n mi pc lo st w z := by
  simp only [xchk, Bool.and_eq_true, decide_eq_true_eq, beq_iff_eq] at hk
  simp only [xexec] at h
  obtain ⟨⟨hd, -⟩, rfl, hv⟩ := hk
  have hv := xbq hv
  subst hv
  obtain ⟨v, hv, h⟩ := xcv_s h
  cases hv
  obtain rfl := xk0_s h
  match q, hd with
  | 0, hd => exact ⟨xle_r _, fun _ _ _ K hn1 ls H locs cells slots hls hSt => lv_dconst0 hC.1 hC.2.1 hd (K hn1 ls H locs cells slots hls hSt)⟩
  | 1, hd => exact ⟨xle_r _, fun _ _ _ K hn1 ls H locs cells slots hls hSt => lv_dconst1 hC.1 hC.2.1 hd (K hn1 ls H locs cells slots hls hSt)⟩
theorem xz_ldc {q : Nat} (hC : xCx p R s m meth c D z0 w0 mi) (hn : n = xml mi) (hk : xchk mi pc ((.ldc q), len, a, b, cv, mm) = true) (h : xexec cal (.ldc q) pc len a b cv lo st w xk0 xr0 = some z) : xG p l e R s m args below meth c Q D z0 w0 wE n mi pc lo st w z := by
  simp only [xchk, Bool.and_eq_true, decide_eq_true_eq, beq_iff_eq] at hk
  simp only [xexec] at h
  obtain ⟨⟨hd, -⟩, rfl, hv⟩ := hk
  obtain ⟨v, rfl, hh⟩ := xcv_s h
  replace h := hh
  clear hh
  obtain rfl := xk0_s h
  obtain x | x | x | x | x := v <;> simp only [reduceCtorEq] at hv
  · obtain ⟨i, hi⟩ := xinI_s hv
    exact ⟨xle_r _, fun _ _ _ K hn1 ls H locs cells slots hls hSt => lv_ldc hC.1 hC.2.1 hC.2.2.2.1 (xTb_word hC.2.2.2.2.2.1 (xgd_at (xkI_ok _ hi) rfl) args) hd (K hn1 ls H locs cells slots hls hSt)⟩
  · obtain ⟨i, hi⟩ := xinF_s hv
    exact ⟨xle_r _, fun _ _ _ K hn1 ls H locs cells slots hls hSt => lv_ldcf hC.1 hC.2.1 hC.2.2.2.1 (xTb_word hC.2.2.2.2.2.1 (xgd_at (xkF_ok _ hi) rfl) args) hd (K hn1 ls H locs cells slots hls hSt)⟩
theorem xz_ldc2_w {q : Nat} (hC : xCx p R s m meth c D z0 w0 mi) (hn : n = xml mi) (hk : xchk mi pc ((.ldc2_w q), len, a, b, cv, mm) = true) (h : xexec cal (.ldc2_w q) pc len a b cv lo st w xk0 xr0 = some z) : xG p l e R s m args below meth c Q D z0 w0 wE n mi pc lo st w z := by
  simp only [xchk, Bool.and_eq_true, decide_eq_true_eq, beq_iff_eq] at hk
  simp only [xexec] at h
  obtain ⟨⟨hd, -⟩, rfl, hv⟩ := hk
  obtain ⟨v, rfl, hh⟩ := xcv_s h
  replace h := hh
  clear hh
  obtain rfl := xk0_s h
  obtain x | x | x | x | x := v <;> simp only [reduceCtorEq] at hv
  · obtain ⟨i, hi⟩ := xinJ_s hv
    exact ⟨xle_r _, fun _ _ _ K hn1 ls H locs cells slots hls hSt => lv_ldc2 hC.1 hC.2.1 hC.2.2.2.1 (xTb_word hC.2.2.2.2.2.1 (xgd_at (xkJ_ok _ hi) rfl) args) hd (K hn1 ls H locs cells slots hls hSt)⟩
  · obtain ⟨i, hi⟩ := xinD_s hv
    exact ⟨xle_r _, fun _ _ _ K hn1 ls H locs cells slots hls hSt => lv_ldc2d hC.1 hC.2.1 hC.2.2.2.1 (xTb_word hC.2.2.2.2.2.1 (xgd_at (xkD_ok _ hi) rfl) args) hd (K hn1 ls H locs cells slots hls hSt)⟩
theorem xz_aconst_null (hC : xCx p R s m meth c D z0 w0 mi) (hn : n = xml mi) (hk : xchk mi pc (.aconst_null, len, a, b, cv, mm) = true) (h : xexec cal .aconst_null pc len a b cv lo st w xk0 xr0 = some z) : xG p l e R s m args below meth c Q D z0 w0 wE n mi pc lo st w z := by
  simp only [xchk, Bool.and_eq_true, decide_eq_true_eq, beq_iff_eq] at hk
  simp only [xexec] at h
  obtain ⟨⟨hd, -⟩, rfl⟩ := hk
  obtain rfl := xk0_s h
  exact ⟨xle_r _, fun _ _ _ K hn1 ls H locs cells slots hls hSt => lv_null hC.1 hC.2.1 hd (K hn1 ls H locs cells slots hls hSt)⟩
theorem xz_iload {q : Nat} (hC : xCx p R s m meth c D z0 w0 mi) (hn : n = xml mi) (hk : xchk mi pc ((.iload q), len, a, b, cv, mm) = true) (h : xexec cal (.iload q) pc len a b cv lo st w xk0 xr0 = some z) : xG p l e R s m args below meth c Q D z0 w0 wE n mi pc lo st w z := by
  simp only [xchk, Bool.and_eq_true, decide_eq_true_eq, beq_iff_eq] at hk
  simp only [xexec] at h
  obtain ⟨⟨hd, -⟩, rfl, rfl⟩ := hk
  obtain ⟨x, hx, h⟩ := xlI_s h
  obtain rfl := xk0_s h
  exact ⟨xle_r _, fun _ _ _ K hn1 ls H locs cells slots hls hSt => lv_iload hC.1 hC.2.1 hd (hls.2.2 _ _ hx) (K hn1 ls H locs cells slots hls hSt)⟩
theorem xz_iload_n {q : Fin 4} (hC : xCx p R s m meth c D z0 w0 mi) (hn : n = xml mi) (hk : xchk mi pc ((.iload_n q), len, a, b, cv, mm) = true) (h : xexec cal (.iload_n q) pc len a b cv lo st w xk0 xr0 = some z) : xG p l e R s m args below meth c Q D z0 w0 wE n mi pc lo st w z := by
  simp only [xchk, Bool.and_eq_true, decide_eq_true_eq, beq_iff_eq] at hk
  simp only [xexec] at h
  obtain ⟨⟨hd, -⟩, rfl, rfl⟩ := hk
  obtain ⟨x, hx, h⟩ := xlI_s h
  obtain rfl := xk0_s h
  exact ⟨xle_r _, fun _ _ _ K hn1 ls H locs cells slots hls hSt => lv_iload_n hC.1 hC.2.1 hd rfl (hls.2.2 _ _ hx) (K hn1 ls H locs cells slots hls hSt)⟩
theorem xz_lload {q : Nat} (hC : xCx p R s m meth c D z0 w0 mi) (hn : n = xml mi) (hk : xchk mi pc ((.lload q), len, a, b, cv, mm) = true) (h : xexec cal (.lload q) pc len a b cv lo st w xk0 xr0 = some z) : xG p l e R s m args below meth c Q D z0 w0 wE n mi pc lo st w z := by
  simp only [xchk, Bool.and_eq_true, decide_eq_true_eq, beq_iff_eq] at hk
  simp only [xexec] at h
  obtain ⟨⟨hd, -⟩, rfl, rfl⟩ := hk
  obtain ⟨x, hx, h⟩ := xlJ_s h
  obtain rfl := xk0_s h
  exact ⟨xle_r _, fun _ _ _ K hn1 ls H locs cells slots hls hSt => lv_lload hC.1 hC.2.1 hd (hls.2.2 _ _ hx) (K hn1 ls H locs cells slots hls hSt)⟩
theorem xz_lload_n {q : Fin 4} (hC : xCx p R s m meth c D z0 w0 mi) (hn : n = xml mi) (hk : xchk mi pc ((.lload_n q), len, a, b, cv, mm) = true) (h : xexec cal (.lload_n q) pc len a b cv lo st w xk0 xr0 = some z) : xG p l e R s m args below meth c Q D z0 w0 wE n mi pc lo st w z := by
  simp only [xchk, Bool.and_eq_true, decide_eq_true_eq, beq_iff_eq] at hk
  simp only [xexec] at h
  obtain ⟨⟨hd, -⟩, rfl, rfl⟩ := hk
  obtain ⟨x, hx, h⟩ := xlJ_s h
  obtain rfl := xk0_s h
  exact ⟨xle_r _, fun _ _ _ K hn1 ls H locs cells slots hls hSt => lv_lload_n hC.1 hC.2.1 hd rfl (hls.2.2 _ _ hx) (K hn1 ls H locs cells slots hls hSt)⟩
theorem xz_fload {q : Nat} (hC : xCx p R s m meth c D z0 w0 mi) (hn : n = xml mi) (hk : xchk mi pc ((.fload q), len, a, b, cv, mm) = true) (h : xexec cal (.fload q) pc len a b cv lo st w xk0 xr0 = some z) : xG p l e R s m args below meth c Q D z0 w0 wE n mi pc lo st w z := by
  simp only [xchk, Bool.and_eq_true, decide_eq_true_eq, beq_iff_eq] at hk
  simp only [xexec] at h
  obtain ⟨⟨hd, -⟩, rfl, rfl⟩ := hk
  obtain ⟨x, hx, h⟩ := xlF_s h
  obtain rfl := xk0_s h
  exact ⟨xle_r _, fun _ _ _ K hn1 ls H locs cells slots hls hSt => lv_fload hC.1 hC.2.1 hd (hls.2.2 _ _ hx) (K hn1 ls H locs cells slots hls hSt)⟩
theorem xz_dload {q : Nat} (hC : xCx p R s m meth c D z0 w0 mi) (hn : n = xml mi) (hk : xchk mi pc ((.dload q), len, a, b, cv, mm) = true) (h : xexec cal (.dload q) pc len a b cv lo st w xk0 xr0 = some z) : xG p l e R s m args below meth c Q D z0 w0 wE n mi pc lo st w z := by
  simp only [xchk, Bool.and_eq_true, decide_eq_true_eq, beq_iff_eq] at hk
  simp only [xexec] at h
  obtain ⟨⟨hd, -⟩, rfl, rfl⟩ := hk
  obtain ⟨x, hx, h⟩ := xlD_s h
  obtain rfl := xk0_s h
  exact ⟨xle_r _, fun _ _ _ K hn1 ls H locs cells slots hls hSt => lv_dload hC.1 hC.2.1 hd (hls.2.2 _ _ hx) (K hn1 ls H locs cells slots hls hSt)⟩
theorem xz_dload_n {q : Fin 4} (hC : xCx p R s m meth c D z0 w0 mi) (hn : n = xml mi) (hk : xchk mi pc ((.dload_n q), len, a, b, cv, mm) = true) (h : xexec cal (.dload_n q) pc len a b cv lo st w xk0 xr0 = some z) : xG p l e R s m args below meth c Q D z0 w0 wE n mi pc lo st w z := by
  simp only [xchk, Bool.and_eq_true, decide_eq_true_eq, beq_iff_eq] at hk
  simp only [xexec] at h
  obtain ⟨⟨hd, -⟩, rfl, rfl⟩ := hk
  obtain ⟨x, hx, h⟩ := xlD_s h
  obtain rfl := xk0_s h
  exact ⟨xle_r _, fun _ _ _ K hn1 ls H locs cells slots hls hSt => lv_dload_n hC.1 hC.2.1 hd rfl (hls.2.2 _ _ hx) (K hn1 ls H locs cells slots hls hSt)⟩
theorem xz_aload {q : Nat} (hC : xCx p R s m meth c D z0 w0 mi) (hn : n = xml mi) (hk : xchk mi pc ((.aload q), len, a, b, cv, mm) = true) (h : xexec cal (.aload q) pc len a b cv lo st w xk0 xr0 = some z) : xG p l e R s m args below meth c Q D z0 w0 wE n mi pc lo st w z := by
  simp only [xchk, Bool.and_eq_true, decide_eq_true_eq, beq_iff_eq] at hk
  simp only [xexec] at h
  obtain ⟨⟨hd, -⟩, rfl, rfl⟩ := hk
  obtain ⟨x, hx, h⟩ := xlA_s h
  obtain rfl := xk0_s h
  cases x with
  | none => exact ⟨xle_r _, fun _ _ _ K hn1 ls H locs cells slots hls hSt => lv_aloadN hC.1 hC.2.1 hd (hls.2.2 _ _ hx) (K hn1 ls H locs cells slots hls hSt)⟩
  | some x => exact ⟨xle_r _, fun _ _ _ K hn1 ls H locs cells slots hls hSt => lv_aload hC.1 hC.2.1 hd (hls.2.2 _ _ hx) (K hn1 ls H locs cells slots hls hSt)⟩
theorem xz_aload_n {q : Fin 4} (hC : xCx p R s m meth c D z0 w0 mi) (hn : n = xml mi) (hk : xchk mi pc ((.aload_n q), len, a, b, cv, mm) = true) (h : xexec cal (.aload_n q) pc len a b cv lo st w xk0 xr0 = some z) : xG p l e R s m args below meth c Q D z0 w0 wE n mi pc lo st w z := by
  simp only [xchk, Bool.and_eq_true, decide_eq_true_eq, beq_iff_eq] at hk
  simp only [xexec] at h
  obtain ⟨⟨hd, -⟩, rfl, rfl⟩ := hk
  obtain ⟨x, hx, h⟩ := xlA_s h
  obtain rfl := xk0_s h
  cases x with
  | none => exact ⟨xle_r _, fun _ _ _ K hn1 ls H locs cells slots hls hSt => lv_aload_nN hC.1 hC.2.1 hd rfl (hls.2.2 _ _ hx) (K hn1 ls H locs cells slots hls hSt)⟩
  | some x => exact ⟨xle_r _, fun _ _ _ K hn1 ls H locs cells slots hls hSt => lv_aload_n hC.1 hC.2.1 hd rfl (hls.2.2 _ _ hx) (K hn1 ls H locs cells slots hls hSt)⟩
theorem xz_istore {q : Nat} (hC : xCx p R s m meth c D z0 w0 mi) (hn : n = xml mi) (hk : xchk mi pc ((.istore q), len, a, b, cv, mm) = true) (h : xexec cal (.istore q) pc len a b cv lo st w xk0 xr0 = some z) : xG p l e R s m args below meth c Q D z0 w0 wE n mi pc lo st w z := by
  simp only [xchk, Bool.and_eq_true, decide_eq_true_eq, beq_iff_eq] at hk
  simp only [xexec] at h
  obtain ⟨⟨hd, -⟩, ⟨rfl, rfl⟩, hb⟩ := hk
  rw [Nat.blt_eq] at hb
  obtain ⟨x, st, rfl, hh⟩ := xpI_s h
  replace h := hh
  clear hh
  obtain rfl := xk0_s h
  exact ⟨xle_r _, fun _ _ _ K hn1 ls H locs cells slots hls hSt => lv_istore hC.1 hC.2.1 hd (xLs_has hls) (by omega) rfl (fun ls2 h2 => K (by rw [xs1_len]; exact hn1) ls2 H locs cells slots (xLs_1 (by omega) h2) hSt)⟩
theorem xz_istore_n {q : Fin 4} (hC : xCx p R s m meth c D z0 w0 mi) (hn : n = xml mi) (hk : xchk mi pc ((.istore_n q), len, a, b, cv, mm) = true) (h : xexec cal (.istore_n q) pc len a b cv lo st w xk0 xr0 = some z) : xG p l e R s m args below meth c Q D z0 w0 wE n mi pc lo st w z := by
  simp only [xchk, Bool.and_eq_true, decide_eq_true_eq, beq_iff_eq] at hk
  simp only [xexec] at h
  obtain ⟨⟨hd, -⟩, ⟨rfl, rfl⟩, hb⟩ := hk
  rw [Nat.blt_eq] at hb
  obtain ⟨x, st, rfl, hh⟩ := xpI_s h
  replace h := hh
  clear hh
  obtain rfl := xk0_s h
  exact ⟨xle_r _, fun _ _ _ K hn1 ls H locs cells slots hls hSt => lv_istore_n hC.1 hC.2.1 hd rfl (xLs_has hls) (by omega) rfl (fun ls2 h2 => K (by rw [xs1_len]; exact hn1) ls2 H locs cells slots (xLs_1 (by omega) h2) hSt)⟩
theorem xz_lstore {q : Nat} (hC : xCx p R s m meth c D z0 w0 mi) (hn : n = xml mi) (hk : xchk mi pc ((.lstore q), len, a, b, cv, mm) = true) (h : xexec cal (.lstore q) pc len a b cv lo st w xk0 xr0 = some z) : xG p l e R s m args below meth c Q D z0 w0 wE n mi pc lo st w z := by
  simp only [xchk, Bool.and_eq_true, decide_eq_true_eq, beq_iff_eq] at hk
  simp only [xexec] at h
  obtain ⟨⟨hd, -⟩, ⟨rfl, rfl⟩, hb⟩ := hk
  rw [Nat.blt_eq] at hb
  obtain ⟨x, st, rfl, hh⟩ := xpJ_s h
  replace h := hh
  clear hh
  obtain rfl := xk0_s h
  exact ⟨xle_r _, fun _ _ _ K hn1 ls H locs cells slots hls hSt => lv_lstore hC.1 hC.2.1 hd (xLs_has hls) (by omega) rfl (fun ls2 h2 => K (by rw [xs2_len]; exact hn1) ls2 H locs cells slots (xLs_2 (by omega) h2) hSt)⟩
theorem xz_lstore_n {q : Fin 4} (hC : xCx p R s m meth c D z0 w0 mi) (hn : n = xml mi) (hk : xchk mi pc ((.lstore_n q), len, a, b, cv, mm) = true) (h : xexec cal (.lstore_n q) pc len a b cv lo st w xk0 xr0 = some z) : xG p l e R s m args below meth c Q D z0 w0 wE n mi pc lo st w z := by
  simp only [xchk, Bool.and_eq_true, decide_eq_true_eq, beq_iff_eq] at hk
  simp only [xexec] at h
  obtain ⟨⟨hd, -⟩, ⟨rfl, rfl⟩, hb⟩ := hk
  rw [Nat.blt_eq] at hb
  obtain ⟨x, st, rfl, hh⟩ := xpJ_s h
  replace h := hh
  clear hh
  obtain rfl := xk0_s h
  exact ⟨xle_r _, fun _ _ _ K hn1 ls H locs cells slots hls hSt => lv_lstore_n hC.1 hC.2.1 hd rfl (xLs_has hls) (by omega) rfl (fun ls2 h2 => K (by rw [xs2_len]; exact hn1) ls2 H locs cells slots (xLs_2 (by omega) h2) hSt)⟩
theorem xz_fstore {q : Nat} (hC : xCx p R s m meth c D z0 w0 mi) (hn : n = xml mi) (hk : xchk mi pc ((.fstore q), len, a, b, cv, mm) = true) (h : xexec cal (.fstore q) pc len a b cv lo st w xk0 xr0 = some z) : xG p l e R s m args below meth c Q D z0 w0 wE n mi pc lo st w z := by
  simp only [xchk, Bool.and_eq_true, decide_eq_true_eq, beq_iff_eq] at hk
  simp only [xexec] at h
  obtain ⟨⟨hd, -⟩, ⟨rfl, rfl⟩, hb⟩ := hk
  rw [Nat.blt_eq] at hb
  obtain ⟨x, st, rfl, hh⟩ := xpF_s h
  replace h := hh
  clear hh
  obtain rfl := xk0_s h
  exact ⟨xle_r _, fun _ _ _ K hn1 ls H locs cells slots hls hSt => lv_fstore hC.1 hC.2.1 hd (xLs_has hls) (by omega) rfl (fun ls2 h2 => K (by rw [xs1_len]; exact hn1) ls2 H locs cells slots (xLs_1 (by omega) h2) hSt)⟩
theorem xz_dstore {q : Nat} (hC : xCx p R s m meth c D z0 w0 mi) (hn : n = xml mi) (hk : xchk mi pc ((.dstore q), len, a, b, cv, mm) = true) (h : xexec cal (.dstore q) pc len a b cv lo st w xk0 xr0 = some z) : xG p l e R s m args below meth c Q D z0 w0 wE n mi pc lo st w z := by
  simp only [xchk, Bool.and_eq_true, decide_eq_true_eq, beq_iff_eq] at hk
  simp only [xexec] at h
  obtain ⟨⟨hd, -⟩, ⟨rfl, rfl⟩, hb⟩ := hk
  rw [Nat.blt_eq] at hb
  obtain ⟨x, st, rfl, hh⟩ := xpD_s h
  replace h := hh
  clear hh
  obtain rfl := xk0_s h
  exact ⟨xle_r _, fun _ _ _ K hn1 ls H locs cells slots hls hSt => lv_dstore hC.1 hC.2.1 hd (xLs_has hls) (by omega) rfl (fun ls2 h2 => K (by rw [xs2_len]; exact hn1) ls2 H locs cells slots (xLs_2 (by omega) h2) hSt)⟩
theorem xz_dstore_n {q : Fin 4} (hC : xCx p R s m meth c D z0 w0 mi) (hn : n = xml mi) (hk : xchk mi pc ((.dstore_n q), len, a, b, cv, mm) = true) (h : xexec cal (.dstore_n q) pc len a b cv lo st w xk0 xr0 = some z) : xG p l e R s m args below meth c Q D z0 w0 wE n mi pc lo st w z := by
  simp only [xchk, Bool.and_eq_true, decide_eq_true_eq, beq_iff_eq] at hk
  simp only [xexec] at h
  obtain ⟨⟨hd, -⟩, ⟨rfl, rfl⟩, hb⟩ := hk
  rw [Nat.blt_eq] at hb
  obtain ⟨x, st, rfl, hh⟩ := xpD_s h
  replace h := hh
  clear hh
  obtain rfl := xk0_s h
  exact ⟨xle_r _, fun _ _ _ K hn1 ls H locs cells slots hls hSt => lv_dstore_n hC.1 hC.2.1 hd rfl (xLs_has hls) (by omega) rfl (fun ls2 h2 => K (by rw [xs2_len]; exact hn1) ls2 H locs cells slots (xLs_2 (by omega) h2) hSt)⟩
theorem xz_astore {q : Nat} (hC : xCx p R s m meth c D z0 w0 mi) (hn : n = xml mi) (hk : xchk mi pc ((.astore q), len, a, b, cv, mm) = true) (h : xexec cal (.astore q) pc len a b cv lo st w xk0 xr0 = some z) : xG p l e R s m args below meth c Q D z0 w0 wE n mi pc lo st w z := by
  simp only [xchk, Bool.and_eq_true, decide_eq_true_eq, beq_iff_eq] at hk
  simp only [xexec] at h
  obtain ⟨⟨hd, -⟩, ⟨rfl, rfl⟩, hb⟩ := hk
  rw [Nat.blt_eq] at hb
  obtain ⟨x, st, rfl, hh⟩ := xpA_s h
  replace h := hh
  clear hh
  obtain rfl := xk0_s h
  cases x with
  | none => exact ⟨xle_r _, fun _ _ _ K hn1 ls H locs cells slots hls hSt => lv_astoreN hC.1 hC.2.1 hd (xLs_has hls) (by omega) rfl (fun ls2 h2 => K (by rw [xs1_len]; exact hn1) ls2 H locs cells slots (xLs_1 (by omega) h2) hSt)⟩
  | some x => exact ⟨xle_r _, fun _ _ _ K hn1 ls H locs cells slots hls hSt => lv_astore hC.1 hC.2.1 hd (xLs_has hls) (by omega) rfl (fun ls2 h2 => K (by rw [xs1_len]; exact hn1) ls2 H locs cells slots (xLs_1 (by omega) h2) hSt)⟩
theorem xz_astore_n {q : Fin 4} (hC : xCx p R s m meth c D z0 w0 mi) (hn : n = xml mi) (hk : xchk mi pc ((.astore_n q), len, a, b, cv, mm) = true) (h : xexec cal (.astore_n q) pc len a b cv lo st w xk0 xr0 = some z) : xG p l e R s m args below meth c Q D z0 w0 wE n mi pc lo st w z := by
  simp only [xchk, Bool.and_eq_true, decide_eq_true_eq, beq_iff_eq] at hk
  simp only [xexec] at h
  obtain ⟨⟨hd, -⟩, ⟨rfl, rfl⟩, hb⟩ := hk
  rw [Nat.blt_eq] at hb
  obtain ⟨x, st, rfl, hh⟩ := xpA_s h
  replace h := hh
  clear hh
  obtain rfl := xk0_s h
  cases x with
  | none => exact ⟨xle_r _, fun _ _ _ K hn1 ls H locs cells slots hls hSt => lv_astore_nN hC.1 hC.2.1 hd rfl (xLs_has hls) (by omega) rfl (fun ls2 h2 => K (by rw [xs1_len]; exact hn1) ls2 H locs cells slots (xLs_1 (by omega) h2) hSt)⟩
  | some x => exact ⟨xle_r _, fun _ _ _ K hn1 ls H locs cells slots hls hSt => lv_astore_n hC.1 hC.2.1 hd rfl (xLs_has hls) (by omega) rfl (fun ls2 h2 => K (by rw [xs1_len]; exact hn1) ls2 H locs cells slots (xLs_1 (by omega) h2) hSt)⟩
theorem xz_iinc {q : Nat} {q2 : Int} (hC : xCx p R s m meth c D z0 w0 mi) (hn : n = xml mi) (hk : xchk mi pc ((.iinc q q2), len, a, b, cv, mm) = true) (h : xexec cal (.iinc q q2) pc len a b cv lo st w xk0 xr0 = some z) : xG p l e R s m args below meth c Q D z0 w0 wE n mi pc lo st w z := by
  simp only [xchk, Bool.and_eq_true, decide_eq_true_eq, beq_iff_eq] at hk
  simp only [xexec] at h
  obtain ⟨⟨hd, -⟩, ⟨⟨rfl, rfl⟩, hb⟩, hv⟩ := hk
  rw [Nat.blt_eq] at hb
  have hv := xbq hv
  subst hv
  obtain ⟨x, hx, h⟩ := xlI_s h
  obtain ⟨v, hv, h⟩ := xcv_s h
  cases hv
  obtain ⟨y, hy, h⟩ := xrI_s h
  cases hy
  obtain rfl := xk0_s h
  exact ⟨xle_r _, fun _ _ _ K hn1 ls H locs cells slots hls hSt => by
    obtain ⟨j, hj⟩ := List.getElem?_of_mem (xprs_mem hx)
    exact lv_iinc hC.1 hC.2.1 hd (xLs_has hls) hj rfl (by omega) rfl (fun ls2 h2 => K (by rw [xs1_len]; exact hn1) ls2 H locs cells slots (xLs_1 (v := xI (x + Int32.ofInt q2)) (by omega) h2) hSt)⟩
theorem xz_iadd (hC : xCx p R s m meth c D z0 w0 mi) (hn : n = xml mi) (hk : xchk mi pc (.iadd, len, a, b, cv, mm) = true) (h : xexec cal .iadd pc len a b cv lo st w xk0 xr0 = some z) : xG p l e R s m args below meth c Q D z0 w0 wE n mi pc lo st w z := by
  simp only [xchk, Bool.and_eq_true, decide_eq_true_eq, beq_iff_eq] at hk
  simp only [xexec] at h
  obtain ⟨⟨hd, -⟩, rfl⟩ := hk
  obtain ⟨y, st, rfl, hh⟩ := xpI_s h
  replace h := hh
  clear hh
  obtain ⟨x, st, rfl, hh⟩ := xpI_s h
  replace h := hh
  clear hh
  obtain rfl := xk0_s h
  exact ⟨xle_r _, fun _ _ _ K hn1 ls H locs cells slots hls hSt => lv_iadd hC.1 hC.2.1 hd (K hn1 ls H locs cells slots hls hSt)⟩
theorem xz_isub (hC : xCx p R s m meth c D z0 w0 mi) (hn : n = xml mi) (hk : xchk mi pc (.isub, len, a, b, cv, mm) = true) (h : xexec cal .isub pc len a b cv lo st w xk0 xr0 = some z) : xG p l e R s m args below meth c Q D z0 w0 wE n mi pc lo st w z := by
  simp only [xchk, Bool.and_eq_true, decide_eq_true_eq, beq_iff_eq] at hk
  simp only [xexec] at h
  obtain ⟨⟨hd, -⟩, rfl⟩ := hk
  obtain ⟨y, st, rfl, hh⟩ := xpI_s h
  replace h := hh
  clear hh
  obtain ⟨x, st, rfl, hh⟩ := xpI_s h
  replace h := hh
  clear hh
  obtain rfl := xk0_s h
  exact ⟨xle_r _, fun _ _ _ K hn1 ls H locs cells slots hls hSt => lv_isub hC.1 hC.2.1 hd (K hn1 ls H locs cells slots hls hSt)⟩
theorem xz_imul (hC : xCx p R s m meth c D z0 w0 mi) (hn : n = xml mi) (hk : xchk mi pc (.imul, len, a, b, cv, mm) = true) (h : xexec cal .imul pc len a b cv lo st w xk0 xr0 = some z) : xG p l e R s m args below meth c Q D z0 w0 wE n mi pc lo st w z := by
  simp only [xchk, Bool.and_eq_true, decide_eq_true_eq, beq_iff_eq] at hk
  simp only [xexec] at h
  obtain ⟨⟨hd, -⟩, rfl⟩ := hk
  obtain ⟨y, st, rfl, hh⟩ := xpI_s h
  replace h := hh
  clear hh
  obtain ⟨x, st, rfl, hh⟩ := xpI_s h
  replace h := hh
  clear hh
  obtain rfl := xk0_s h
  exact ⟨xle_r _, fun _ _ _ K hn1 ls H locs cells slots hls hSt => lv_imul hC.1 hC.2.1 hd (K hn1 ls H locs cells slots hls hSt)⟩
theorem xz_iand (hC : xCx p R s m meth c D z0 w0 mi) (hn : n = xml mi) (hk : xchk mi pc (.iand, len, a, b, cv, mm) = true) (h : xexec cal .iand pc len a b cv lo st w xk0 xr0 = some z) : xG p l e R s m args below meth c Q D z0 w0 wE n mi pc lo st w z := by
  simp only [xchk, Bool.and_eq_true, decide_eq_true_eq, beq_iff_eq] at hk
  simp only [xexec] at h
  obtain ⟨⟨hd, -⟩, rfl⟩ := hk
  obtain ⟨y, st, rfl, hh⟩ := xpI_s h
  replace h := hh
  clear hh
  obtain ⟨x, st, rfl, hh⟩ := xpI_s h
  replace h := hh
  clear hh
  obtain rfl := xk0_s h
  exact ⟨xle_r _, fun _ _ _ K hn1 ls H locs cells slots hls hSt => lv_iand hC.1 hC.2.1 hd (K hn1 ls H locs cells slots hls hSt)⟩
theorem xz_ior (hC : xCx p R s m meth c D z0 w0 mi) (hn : n = xml mi) (hk : xchk mi pc (.ior, len, a, b, cv, mm) = true) (h : xexec cal .ior pc len a b cv lo st w xk0 xr0 = some z) : xG p l e R s m args below meth c Q D z0 w0 wE n mi pc lo st w z := by
  simp only [xchk, Bool.and_eq_true, decide_eq_true_eq, beq_iff_eq] at hk
  simp only [xexec] at h
  obtain ⟨⟨hd, -⟩, rfl⟩ := hk
  obtain ⟨y, st, rfl, hh⟩ := xpI_s h
  replace h := hh
  clear hh
  obtain ⟨x, st, rfl, hh⟩ := xpI_s h
  replace h := hh
  clear hh
  obtain rfl := xk0_s h
  exact ⟨xle_r _, fun _ _ _ K hn1 ls H locs cells slots hls hSt => lv_ior hC.1 hC.2.1 hd (K hn1 ls H locs cells slots hls hSt)⟩
theorem xz_ishl (hC : xCx p R s m meth c D z0 w0 mi) (hn : n = xml mi) (hk : xchk mi pc (.ishl, len, a, b, cv, mm) = true) (h : xexec cal .ishl pc len a b cv lo st w xk0 xr0 = some z) : xG p l e R s m args below meth c Q D z0 w0 wE n mi pc lo st w z := by
  simp only [xchk, Bool.and_eq_true, decide_eq_true_eq, beq_iff_eq] at hk
  simp only [xexec] at h
  obtain ⟨⟨hd, -⟩, rfl⟩ := hk
  obtain ⟨y, st, rfl, hh⟩ := xpI_s h
  replace h := hh
  clear hh
  obtain ⟨x, st, rfl, hh⟩ := xpI_s h
  replace h := hh
  clear hh
  obtain rfl := xk0_s h
  exact ⟨xle_r _, fun _ _ _ K hn1 ls H locs cells slots hls hSt => lv_ishl hC.1 hC.2.1 hd (K hn1 ls H locs cells slots hls hSt)⟩
theorem xz_ishr (hC : xCx p R s m meth c D z0 w0 mi) (hn : n = xml mi) (hk : xchk mi pc (.ishr, len, a, b, cv, mm) = true) (h : xexec cal .ishr pc len a b cv lo st w xk0 xr0 = some z) : xG p l e R s m args below meth c Q D z0 w0 wE n mi pc lo st w z := by
  simp only [xchk, Bool.and_eq_true, decide_eq_true_eq, beq_iff_eq] at hk
  simp only [xexec] at h
  obtain ⟨⟨hd, -⟩, rfl⟩ := hk
  obtain ⟨y, st, rfl, hh⟩ := xpI_s h
  replace h := hh
  clear hh
  obtain ⟨x, st, rfl, hh⟩ := xpI_s h
  replace h := hh
  clear hh
  obtain rfl := xk0_s h
  exact ⟨xle_r _, fun _ _ _ K hn1 ls H locs cells slots hls hSt => lv_ishr hC.1 hC.2.1 hd (K hn1 ls H locs cells slots hls hSt)⟩
theorem xz_ladd (hC : xCx p R s m meth c D z0 w0 mi) (hn : n = xml mi) (hk : xchk mi pc (.ladd, len, a, b, cv, mm) = true) (h : xexec cal .ladd pc len a b cv lo st w xk0 xr0 = some z) : xG p l e R s m args below meth c Q D z0 w0 wE n mi pc lo st w z := by
  simp only [xchk, Bool.and_eq_true, decide_eq_true_eq, beq_iff_eq] at hk
  simp only [xexec] at h
  obtain ⟨⟨hd, -⟩, rfl⟩ := hk
  obtain ⟨y, st, rfl, hh⟩ := xpJ_s h
  replace h := hh
  clear hh
  obtain ⟨x, st, rfl, hh⟩ := xpJ_s h
  replace h := hh
  clear hh
  obtain rfl := xk0_s h
  exact ⟨xle_r _, fun _ _ _ K hn1 ls H locs cells slots hls hSt => lv_ladd hC.1 hC.2.1 hd (K hn1 ls H locs cells slots hls hSt)⟩
theorem xz_lsub (hC : xCx p R s m meth c D z0 w0 mi) (hn : n = xml mi) (hk : xchk mi pc (.lsub, len, a, b, cv, mm) = true) (h : xexec cal .lsub pc len a b cv lo st w xk0 xr0 = some z) : xG p l e R s m args below meth c Q D z0 w0 wE n mi pc lo st w z := by
  simp only [xchk, Bool.and_eq_true, decide_eq_true_eq, beq_iff_eq] at hk
  simp only [xexec] at h
  obtain ⟨⟨hd, -⟩, rfl⟩ := hk
  obtain ⟨y, st, rfl, hh⟩ := xpJ_s h
  replace h := hh
  clear hh
  obtain ⟨x, st, rfl, hh⟩ := xpJ_s h
  replace h := hh
  clear hh
  obtain rfl := xk0_s h
  exact ⟨xle_r _, fun _ _ _ K hn1 ls H locs cells slots hls hSt => lv_lsub hC.1 hC.2.1 hd (K hn1 ls H locs cells slots hls hSt)⟩
theorem xz_land (hC : xCx p R s m meth c D z0 w0 mi) (hn : n = xml mi) (hk : xchk mi pc (.land, len, a, b, cv, mm) = true) (h : xexec cal .land pc len a b cv lo st w xk0 xr0 = some z) : xG p l e R s m args below meth c Q D z0 w0 wE n mi pc lo st w z := by
  simp only [xchk, Bool.and_eq_true, decide_eq_true_eq, beq_iff_eq] at hk
  simp only [xexec] at h
  obtain ⟨⟨hd, -⟩, rfl⟩ := hk
  obtain ⟨y, st, rfl, hh⟩ := xpJ_s h
  replace h := hh
  clear hh
  obtain ⟨x, st, rfl, hh⟩ := xpJ_s h
  replace h := hh
  clear hh
  obtain rfl := xk0_s h
  exact ⟨xle_r _, fun _ _ _ K hn1 ls H locs cells slots hls hSt => lv_land hC.1 hC.2.1 hd (K hn1 ls H locs cells slots hls hSt)⟩
theorem xz_lor (hC : xCx p R s m meth c D z0 w0 mi) (hn : n = xml mi) (hk : xchk mi pc (.lor, len, a, b, cv, mm) = true) (h : xexec cal .lor pc len a b cv lo st w xk0 xr0 = some z) : xG p l e R s m args below meth c Q D z0 w0 wE n mi pc lo st w z := by
  simp only [xchk, Bool.and_eq_true, decide_eq_true_eq, beq_iff_eq] at hk
  simp only [xexec] at h
  obtain ⟨⟨hd, -⟩, rfl⟩ := hk
  obtain ⟨y, st, rfl, hh⟩ := xpJ_s h
  replace h := hh
  clear hh
  obtain ⟨x, st, rfl, hh⟩ := xpJ_s h
  replace h := hh
  clear hh
  obtain rfl := xk0_s h
  exact ⟨xle_r _, fun _ _ _ K hn1 ls H locs cells slots hls hSt => lv_lor hC.1 hC.2.1 hd (K hn1 ls H locs cells slots hls hSt)⟩
theorem xz_lshl (hC : xCx p R s m meth c D z0 w0 mi) (hn : n = xml mi) (hk : xchk mi pc (.lshl, len, a, b, cv, mm) = true) (h : xexec cal .lshl pc len a b cv lo st w xk0 xr0 = some z) : xG p l e R s m args below meth c Q D z0 w0 wE n mi pc lo st w z := by
  simp only [xchk, Bool.and_eq_true, decide_eq_true_eq, beq_iff_eq] at hk
  simp only [xexec] at h
  obtain ⟨⟨hd, -⟩, rfl⟩ := hk
  obtain ⟨y, st, rfl, hh⟩ := xpI_s h
  replace h := hh
  clear hh
  obtain ⟨x, st, rfl, hh⟩ := xpJ_s h
  replace h := hh
  clear hh
  obtain rfl := xk0_s h
  exact ⟨xle_r _, fun _ _ _ K hn1 ls H locs cells slots hls hSt => lv_lshl hC.1 hC.2.1 hd rfl (K hn1 ls H locs cells slots hls hSt)⟩
theorem xz_idiv (hC : xCx p R s m meth c D z0 w0 mi) (hn : n = xml mi) (hk : xchk mi pc (.idiv, len, a, b, cv, mm) = true) (h : xexec cal .idiv pc len a b cv lo st w xk0 xr0 = some z) : xG p l e R s m args below meth c Q D z0 w0 wE n mi pc lo st w z := by
  simp only [xchk, Bool.and_eq_true, decide_eq_true_eq, beq_iff_eq] at hk
  simp only [xexec] at h
  obtain ⟨⟨hd, -⟩, rfl⟩ := hk
  obtain ⟨y, st, rfl, hh⟩ := xpI_s h
  replace h := hh
  clear hh
  obtain ⟨x, st, rfl, hh⟩ := xpI_s h
  replace h := hh
  clear hh
  split at h
  · cases h
  · next hne =>
    obtain rfl := xk0_s h
    exact ⟨xle_r _, fun _ _ _ K hn1 ls H locs cells slots hls hSt => lv_idiv hC.1 hC.2.1 hd hne (K hn1 ls H locs cells slots hls hSt)⟩
theorem xz_irem (hC : xCx p R s m meth c D z0 w0 mi) (hn : n = xml mi) (hk : xchk mi pc (.irem, len, a, b, cv, mm) = true) (h : xexec cal .irem pc len a b cv lo st w xk0 xr0 = some z) : xG p l e R s m args below meth c Q D z0 w0 wE n mi pc lo st w z := by
  simp only [xchk, Bool.and_eq_true, decide_eq_true_eq, beq_iff_eq] at hk
  simp only [xexec] at h
  obtain ⟨⟨hd, -⟩, rfl⟩ := hk
  obtain ⟨y, st, rfl, hh⟩ := xpI_s h
  replace h := hh
  clear hh
  obtain ⟨x, st, rfl, hh⟩ := xpI_s h
  replace h := hh
  clear hh
  split at h
  · cases h
  · next hne =>
    obtain rfl := xk0_s h
    exact ⟨xle_r _, fun _ _ _ K hn1 ls H locs cells slots hls hSt => lv_irem hC.1 hC.2.1 hd hne (K hn1 ls H locs cells slots hls hSt)⟩
theorem xz_lcmp (hC : xCx p R s m meth c D z0 w0 mi) (hn : n = xml mi) (hk : xchk mi pc (.lcmp, len, a, b, cv, mm) = true) (h : xexec cal .lcmp pc len a b cv lo st w xk0 xr0 = some z) : xG p l e R s m args below meth c Q D z0 w0 wE n mi pc lo st w z := by
  simp only [xchk, Bool.and_eq_true, decide_eq_true_eq, beq_iff_eq] at hk
  simp only [xexec] at h
  obtain ⟨⟨hd, -⟩, rfl⟩ := hk
  obtain ⟨y, st, rfl, hh⟩ := xpJ_s h
  replace h := hh
  clear hh
  obtain ⟨x, st, rfl, hh⟩ := xpJ_s h
  replace h := hh
  clear hh
  obtain rfl := xk0_s h
  exact ⟨xle_r _, fun _ _ _ K hn1 ls H locs cells slots hls hSt => W.lcmp hC.1 hC.2.1 hd (K hn1 ls H locs cells slots hls hSt)⟩
theorem xz_fadd (hC : xCx p R s m meth c D z0 w0 mi) (hn : n = xml mi) (hk : xchk mi pc (.fadd, len, a, b, cv, mm) = true) (h : xexec cal .fadd pc len a b cv lo st w xk0 xr0 = some z) : xG p l e R s m args below meth c Q D z0 w0 wE n mi pc lo st w z := by
  simp only [xchk, Bool.and_eq_true, decide_eq_true_eq, beq_iff_eq] at hk
  simp only [xexec] at h
  obtain ⟨⟨hd, -⟩, rfl⟩ := hk
  obtain ⟨y, st, rfl, hh⟩ := xpF_s h
  replace h := hh
  clear hh
  obtain ⟨x, st, rfl, hh⟩ := xpF_s h
  replace h := hh
  clear hh
  obtain ⟨hne, h⟩ := xnF_s h
  obtain rfl := xk0_s h
  exact ⟨xle_r _, fun _ _ _ K hn1 ls H locs cells slots hls hSt => lv_fadd hC.1 hC.2.1 hd hne (K hn1 ls H locs cells slots hls hSt)⟩
theorem xz_fdiv (hC : xCx p R s m meth c D z0 w0 mi) (hn : n = xml mi) (hk : xchk mi pc (.fdiv, len, a, b, cv, mm) = true) (h : xexec cal .fdiv pc len a b cv lo st w xk0 xr0 = some z) : xG p l e R s m args below meth c Q D z0 w0 wE n mi pc lo st w z := by
  simp only [xchk, Bool.and_eq_true, decide_eq_true_eq, beq_iff_eq] at hk
  simp only [xexec] at h
  obtain ⟨⟨hd, -⟩, rfl⟩ := hk
  obtain ⟨y, st, rfl, hh⟩ := xpF_s h
  replace h := hh
  clear hh
  obtain ⟨x, st, rfl, hh⟩ := xpF_s h
  replace h := hh
  clear hh
  obtain ⟨hne, h⟩ := xnF_s h
  obtain rfl := xk0_s h
  exact ⟨xle_r _, fun _ _ _ K hn1 ls H locs cells slots hls hSt => lv_fdiv hC.1 hC.2.1 hd hne (K hn1 ls H locs cells slots hls hSt)⟩
theorem xz_dadd (hC : xCx p R s m meth c D z0 w0 mi) (hn : n = xml mi) (hk : xchk mi pc (.dadd, len, a, b, cv, mm) = true) (h : xexec cal .dadd pc len a b cv lo st w xk0 xr0 = some z) : xG p l e R s m args below meth c Q D z0 w0 wE n mi pc lo st w z := by
  simp only [xchk, Bool.and_eq_true, decide_eq_true_eq, beq_iff_eq] at hk
  simp only [xexec] at h
  obtain ⟨⟨hd, -⟩, rfl⟩ := hk
  obtain ⟨y, st, rfl, hh⟩ := xpD_s h
  replace h := hh
  clear hh
  obtain ⟨x, st, rfl, hh⟩ := xpD_s h
  replace h := hh
  clear hh
  obtain ⟨hne, h⟩ := xnD_s h
  obtain rfl := xk0_s h
  exact ⟨xle_r _, fun _ _ _ K hn1 ls H locs cells slots hls hSt => lv_dadd hC.1 hC.2.1 hd hne (K hn1 ls H locs cells slots hls hSt)⟩
theorem xz_dsub (hC : xCx p R s m meth c D z0 w0 mi) (hn : n = xml mi) (hk : xchk mi pc (.dsub, len, a, b, cv, mm) = true) (h : xexec cal .dsub pc len a b cv lo st w xk0 xr0 = some z) : xG p l e R s m args below meth c Q D z0 w0 wE n mi pc lo st w z := by
  simp only [xchk, Bool.and_eq_true, decide_eq_true_eq, beq_iff_eq] at hk
  simp only [xexec] at h
  obtain ⟨⟨hd, -⟩, rfl⟩ := hk
  obtain ⟨y, st, rfl, hh⟩ := xpD_s h
  replace h := hh
  clear hh
  obtain ⟨x, st, rfl, hh⟩ := xpD_s h
  replace h := hh
  clear hh
  obtain ⟨hne, h⟩ := xnD_s h
  obtain rfl := xk0_s h
  exact ⟨xle_r _, fun _ _ _ K hn1 ls H locs cells slots hls hSt => lv_dsub hC.1 hC.2.1 hd hne (K hn1 ls H locs cells slots hls hSt)⟩
theorem xz_dmul (hC : xCx p R s m meth c D z0 w0 mi) (hn : n = xml mi) (hk : xchk mi pc (.dmul, len, a, b, cv, mm) = true) (h : xexec cal .dmul pc len a b cv lo st w xk0 xr0 = some z) : xG p l e R s m args below meth c Q D z0 w0 wE n mi pc lo st w z := by
  simp only [xchk, Bool.and_eq_true, decide_eq_true_eq, beq_iff_eq] at hk
  simp only [xexec] at h
  obtain ⟨⟨hd, -⟩, rfl⟩ := hk
  obtain ⟨y, st, rfl, hh⟩ := xpD_s h
  replace h := hh
  clear hh
  obtain ⟨x, st, rfl, hh⟩ := xpD_s h
  replace h := hh
  clear hh
  obtain ⟨hne, h⟩ := xnD_s h
  obtain rfl := xk0_s h
  exact ⟨xle_r _, fun _ _ _ K hn1 ls H locs cells slots hls hSt => lv_dmul hC.1 hC.2.1 hd hne (K hn1 ls H locs cells slots hls hSt)⟩
theorem xz_ddiv (hC : xCx p R s m meth c D z0 w0 mi) (hn : n = xml mi) (hk : xchk mi pc (.ddiv, len, a, b, cv, mm) = true) (h : xexec cal .ddiv pc len a b cv lo st w xk0 xr0 = some z) : xG p l e R s m args below meth c Q D z0 w0 wE n mi pc lo st w z := by
  simp only [xchk, Bool.and_eq_true, decide_eq_true_eq, beq_iff_eq] at hk
  simp only [xexec] at h
  obtain ⟨⟨hd, -⟩, rfl⟩ := hk
  obtain ⟨y, st, rfl, hh⟩ := xpD_s h
  replace h := hh
  clear hh
  obtain ⟨x, st, rfl, hh⟩ := xpD_s h
  replace h := hh
  clear hh
  obtain ⟨hne, h⟩ := xnD_s h
  obtain rfl := xk0_s h
  exact ⟨xle_r _, fun _ _ _ K hn1 ls H locs cells slots hls hSt => lv_ddiv hC.1 hC.2.1 hd hne (K hn1 ls H locs cells slots hls hSt)⟩
theorem xz_dneg (hC : xCx p R s m meth c D z0 w0 mi) (hn : n = xml mi) (hk : xchk mi pc (.dneg, len, a, b, cv, mm) = true) (h : xexec cal .dneg pc len a b cv lo st w xk0 xr0 = some z) : xG p l e R s m args below meth c Q D z0 w0 wE n mi pc lo st w z := by
  simp only [xchk, Bool.and_eq_true, decide_eq_true_eq, beq_iff_eq] at hk
  simp only [xexec] at h
  obtain ⟨⟨hd, -⟩, rfl⟩ := hk
  obtain ⟨x, st, rfl, hh⟩ := xpD_s h
  replace h := hh
  clear hh
  obtain rfl := xk0_s h
  exact ⟨xle_r _, fun _ _ _ K hn1 ls H locs cells slots hls hSt => lv_dneg hC.1 hC.2.1 hd (K hn1 ls H locs cells slots hls hSt)⟩
theorem xz_dcmp {q : CmpOp} (hC : xCx p R s m meth c D z0 w0 mi) (hn : n = xml mi) (hk : xchk mi pc ((.dcmp q), len, a, b, cv, mm) = true) (h : xexec cal (.dcmp q) pc len a b cv lo st w xk0 xr0 = some z) : xG p l e R s m args below meth c Q D z0 w0 wE n mi pc lo st w z := by
  simp only [xchk, Bool.and_eq_true, decide_eq_true_eq, beq_iff_eq] at hk
  simp only [xexec] at h
  obtain ⟨⟨hd, -⟩, rfl⟩ := hk
  obtain ⟨y, st, rfl, hh⟩ := xpD_s h
  replace h := hh
  clear hh
  obtain ⟨x, st, rfl, hh⟩ := xpD_s h
  replace h := hh
  clear hh
  obtain rfl := xk0_s h
  exact ⟨xle_r _, fun _ _ _ K hn1 ls H locs cells slots hls hSt => lv_dcmp hC.1 hC.2.1 hd (K hn1 ls H locs cells slots hls hSt)⟩
theorem xz_i2l (hC : xCx p R s m meth c D z0 w0 mi) (hn : n = xml mi) (hk : xchk mi pc (.i2l, len, a, b, cv, mm) = true) (h : xexec cal .i2l pc len a b cv lo st w xk0 xr0 = some z) : xG p l e R s m args below meth c Q D z0 w0 wE n mi pc lo st w z := by
  simp only [xchk, Bool.and_eq_true, decide_eq_true_eq, beq_iff_eq] at hk
  simp only [xexec] at h
  obtain ⟨⟨hd, -⟩, rfl⟩ := hk
  obtain ⟨x, st, rfl, hh⟩ := xpI_s h
  replace h := hh
  clear hh
  obtain rfl := xk0_s h
  exact ⟨xle_r _, fun _ _ _ K hn1 ls H locs cells slots hls hSt => lv_i2l hC.1 hC.2.1 hd rfl (K hn1 ls H locs cells slots hls hSt)⟩
theorem xz_l2i (hC : xCx p R s m meth c D z0 w0 mi) (hn : n = xml mi) (hk : xchk mi pc (.l2i, len, a, b, cv, mm) = true) (h : xexec cal .l2i pc len a b cv lo st w xk0 xr0 = some z) : xG p l e R s m args below meth c Q D z0 w0 wE n mi pc lo st w z := by
  simp only [xchk, Bool.and_eq_true, decide_eq_true_eq, beq_iff_eq] at hk
  simp only [xexec] at h
  obtain ⟨⟨hd, -⟩, rfl⟩ := hk
  obtain ⟨x, st, rfl, hh⟩ := xpJ_s h
  replace h := hh
  clear hh
  obtain rfl := xk0_s h
  exact ⟨xle_r _, fun _ _ _ K hn1 ls H locs cells slots hls hSt => lv_l2i hC.1 hC.2.1 hd rfl (K hn1 ls H locs cells slots hls hSt)⟩
theorem xz_i2b (hC : xCx p R s m meth c D z0 w0 mi) (hn : n = xml mi) (hk : xchk mi pc (.i2b, len, a, b, cv, mm) = true) (h : xexec cal .i2b pc len a b cv lo st w xk0 xr0 = some z) : xG p l e R s m args below meth c Q D z0 w0 wE n mi pc lo st w z := by
  simp only [xchk, Bool.and_eq_true, decide_eq_true_eq, beq_iff_eq] at hk
  simp only [xexec] at h
  obtain ⟨⟨hd, -⟩, rfl⟩ := hk
  obtain ⟨x, st, rfl, hh⟩ := xpI_s h
  replace h := hh
  clear hh
  obtain rfl := xk0_s h
  exact ⟨xle_r _, fun _ _ _ K hn1 ls H locs cells slots hls hSt => lv_i2b hC.1 hC.2.1 hd rfl (K hn1 ls H locs cells slots hls hSt)⟩
theorem xz_i2s (hC : xCx p R s m meth c D z0 w0 mi) (hn : n = xml mi) (hk : xchk mi pc (.i2s, len, a, b, cv, mm) = true) (h : xexec cal .i2s pc len a b cv lo st w xk0 xr0 = some z) : xG p l e R s m args below meth c Q D z0 w0 wE n mi pc lo st w z := by
  simp only [xchk, Bool.and_eq_true, decide_eq_true_eq, beq_iff_eq] at hk
  simp only [xexec] at h
  obtain ⟨⟨hd, -⟩, rfl⟩ := hk
  obtain ⟨x, st, rfl, hh⟩ := xpI_s h
  replace h := hh
  clear hh
  obtain rfl := xk0_s h
  exact ⟨xle_r _, fun _ _ _ K hn1 ls H locs cells slots hls hSt => lv_i2s hC.1 hC.2.1 hd rfl (K hn1 ls H locs cells slots hls hSt)⟩
theorem xz_i2c (hC : xCx p R s m meth c D z0 w0 mi) (hn : n = xml mi) (hk : xchk mi pc (.i2c, len, a, b, cv, mm) = true) (h : xexec cal .i2c pc len a b cv lo st w xk0 xr0 = some z) : xG p l e R s m args below meth c Q D z0 w0 wE n mi pc lo st w z := by
  simp only [xchk, Bool.and_eq_true, decide_eq_true_eq, beq_iff_eq] at hk
  simp only [xexec] at h
  obtain ⟨⟨hd, -⟩, rfl⟩ := hk
  obtain ⟨x, st, rfl, hh⟩ := xpI_s h
  replace h := hh
  clear hh
  obtain rfl := xk0_s h
  exact ⟨xle_r _, fun _ _ _ K hn1 ls H locs cells slots hls hSt => lv_i2c hC.1 hC.2.1 hd rfl (K hn1 ls H locs cells slots hls hSt)⟩
theorem xz_l2f (hC : xCx p R s m meth c D z0 w0 mi) (hn : n = xml mi) (hk : xchk mi pc (.l2f, len, a, b, cv, mm) = true) (h : xexec cal .l2f pc len a b cv lo st w xk0 xr0 = some z) : xG p l e R s m args below meth c Q D z0 w0 wE n mi pc lo st w z := by
  simp only [xchk, Bool.and_eq_true, decide_eq_true_eq, beq_iff_eq] at hk
  simp only [xexec] at h
  obtain ⟨⟨hd, -⟩, rfl⟩ := hk
  obtain ⟨x, st, rfl, hh⟩ := xpJ_s h
  replace h := hh
  clear hh
  obtain rfl := xk0_s h
  exact ⟨xle_r _, fun _ _ _ K hn1 ls H locs cells slots hls hSt => lv_l2f hC.1 hC.2.1 hd (K hn1 ls H locs cells slots hls hSt)⟩
theorem xz_l2d (hC : xCx p R s m meth c D z0 w0 mi) (hn : n = xml mi) (hk : xchk mi pc (.l2d, len, a, b, cv, mm) = true) (h : xexec cal .l2d pc len a b cv lo st w xk0 xr0 = some z) : xG p l e R s m args below meth c Q D z0 w0 wE n mi pc lo st w z := by
  simp only [xchk, Bool.and_eq_true, decide_eq_true_eq, beq_iff_eq] at hk
  simp only [xexec] at h
  obtain ⟨⟨hd, -⟩, rfl⟩ := hk
  obtain ⟨x, st, rfl, hh⟩ := xpJ_s h
  replace h := hh
  clear hh
  obtain rfl := xk0_s h
  exact ⟨xle_r _, fun _ _ _ K hn1 ls H locs cells slots hls hSt => lv_l2d hC.1 hC.2.1 hd (K hn1 ls H locs cells slots hls hSt)⟩
theorem xz_d2i (hC : xCx p R s m meth c D z0 w0 mi) (hn : n = xml mi) (hk : xchk mi pc (.d2i, len, a, b, cv, mm) = true) (h : xexec cal .d2i pc len a b cv lo st w xk0 xr0 = some z) : xG p l e R s m args below meth c Q D z0 w0 wE n mi pc lo st w z := by
  simp only [xchk, Bool.and_eq_true, decide_eq_true_eq, beq_iff_eq] at hk
  simp only [xexec] at h
  obtain ⟨⟨hd, -⟩, rfl⟩ := hk
  obtain ⟨x, st, rfl, hh⟩ := xpD_s h
  replace h := hh
  clear hh
  obtain rfl := xk0_s h
  exact ⟨xle_r _, fun _ _ _ K hn1 ls H locs cells slots hls hSt => lv_d2i hC.1 hC.2.1 hd (K hn1 ls H locs cells slots hls hSt)⟩
theorem xz_d2l (hC : xCx p R s m meth c D z0 w0 mi) (hn : n = xml mi) (hk : xchk mi pc (.d2l, len, a, b, cv, mm) = true) (h : xexec cal .d2l pc len a b cv lo st w xk0 xr0 = some z) : xG p l e R s m args below meth c Q D z0 w0 wE n mi pc lo st w z := by
  simp only [xchk, Bool.and_eq_true, decide_eq_true_eq, beq_iff_eq] at hk
  simp only [xexec] at h
  obtain ⟨⟨hd, -⟩, rfl⟩ := hk
  obtain ⟨x, st, rfl, hh⟩ := xpD_s h
  replace h := hh
  clear hh
  obtain rfl := xk0_s h
  exact ⟨xle_r _, fun _ _ _ K hn1 ls H locs cells slots hls hSt => lv_d2l hC.1 hC.2.1 hd (K hn1 ls H locs cells slots hls hSt)⟩
theorem xz_f2d (hC : xCx p R s m meth c D z0 w0 mi) (hn : n = xml mi) (hk : xchk mi pc (.f2d, len, a, b, cv, mm) = true) (h : xexec cal .f2d pc len a b cv lo st w xk0 xr0 = some z) : xG p l e R s m args below meth c Q D z0 w0 wE n mi pc lo st w z := by
  simp only [xchk, Bool.and_eq_true, decide_eq_true_eq, beq_iff_eq] at hk
  simp only [xexec] at h
  obtain ⟨⟨hd, -⟩, rfl⟩ := hk
  obtain ⟨x, st, rfl, hh⟩ := xpF_s h
  replace h := hh
  clear hh
  obtain ⟨hne, h⟩ := xnD_s h
  obtain rfl := xk0_s h
  exact ⟨xle_r _, fun _ _ _ K hn1 ls H locs cells slots hls hSt => lv_f2d hC.1 hC.2.1 hd hne (K hn1 ls H locs cells slots hls hSt)⟩
theorem xz_d2f (hC : xCx p R s m meth c D z0 w0 mi) (hn : n = xml mi) (hk : xchk mi pc (.d2f, len, a, b, cv, mm) = true) (h : xexec cal .d2f pc len a b cv lo st w xk0 xr0 = some z) : xG p l e R s m args below meth c Q D z0 w0 wE n mi pc lo st w z := by
  simp only [xchk, Bool.and_eq_true, decide_eq_true_eq, beq_iff_eq] at hk
  simp only [xexec] at h
  obtain ⟨⟨hd, -⟩, rfl⟩ := hk
  obtain ⟨x, st, rfl, hh⟩ := xpD_s h
  replace h := hh
  clear hh
  obtain ⟨hne, h⟩ := xnF_s h
  obtain rfl := xk0_s h
  exact ⟨xle_r _, fun _ _ _ K hn1 ls H locs cells slots hls hSt => lv_d2f hC.1 hC.2.1 hd hne (K hn1 ls H locs cells slots hls hSt)⟩
theorem xz_ifCond_eq {q : Int} (hC : xCx p R s m meth c D z0 w0 mi) (hn : n = xml mi) (hk : xchk mi pc ((.ifCond .eq q), len, a, b, cv, mm) = true) (h : xexec cal (.ifCond .eq q) pc len a b cv lo st w xk0 xr0 = some z) : xG p l e R s m args below meth c Q D z0 w0 wE n mi pc lo st w z := by
  simp only [xchk, Bool.and_eq_true, decide_eq_true_eq, beq_iff_eq] at hk
  simp only [xexec] at h
  obtain ⟨⟨hd, -⟩, rfl, ht⟩ := hk
  obtain ⟨x, st, rfl, hh⟩ := xpI_s h
  replace h := hh
  clear hh
  split at h
  · next hc =>
    obtain rfl := xk0_s h
    exact ⟨xle_r _, fun _ _ _ K hn1 ls H locs cells slots hls hSt => lv_if_eq hC.1 hC.2.1 hd ht (fun _ => K hn1 ls H locs cells slots hls hSt) (fun g => absurd hc g)⟩
  · next hc =>
    obtain rfl := xk0_s h
    exact ⟨xle_r _, fun _ _ _ K hn1 ls H locs cells slots hls hSt => lv_if_eq hC.1 hC.2.1 hd ht (fun g => absurd g hc) (fun _ => K hn1 ls H locs cells slots hls hSt)⟩
theorem xz_ifCond_ne {q : Int} (hC : xCx p R s m meth c D z0 w0 mi) (hn : n = xml mi) (hk : xchk mi pc ((.ifCond .ne q), len, a, b, cv, mm) = true) (h : xexec cal (.ifCond .ne q) pc len a b cv lo st w xk0 xr0 = some z) : xG p l e R s m args below meth c Q D z0 w0 wE n mi pc lo st w z := by
  simp only [xchk, Bool.and_eq_true, decide_eq_true_eq, beq_iff_eq] at hk
  simp only [xexec] at h
  obtain ⟨⟨hd, -⟩, rfl, ht⟩ := hk
  obtain ⟨x, st, rfl, hh⟩ := xpI_s h
  replace h := hh
  clear hh
  split at h
  · next hc =>
    obtain rfl := xk0_s h
    exact ⟨xle_r _, fun _ _ _ K hn1 ls H locs cells slots hls hSt => lv_if_ne hC.1 hC.2.1 hd ht (fun g => absurd hc g) (fun _ => K hn1 ls H locs cells slots hls hSt)⟩
  · next hc =>
    obtain rfl := xk0_s h
    exact ⟨xle_r _, fun _ _ _ K hn1 ls H locs cells slots hls hSt => lv_if_ne hC.1 hC.2.1 hd ht (fun _ => K hn1 ls H locs cells slots hls hSt) (fun g => absurd g hc)⟩
theorem xz_ifCond_lt {q : Int} (hC : xCx p R s m meth c D z0 w0 mi) (hn : n = xml mi) (hk : xchk mi pc ((.ifCond .lt q), len, a, b, cv, mm) = true) (h : xexec cal (.ifCond .lt q) pc len a b cv lo st w xk0 xr0 = some z) : xG p l e R s m args below meth c Q D z0 w0 wE n mi pc lo st w z := by
  simp only [xchk, Bool.and_eq_true, decide_eq_true_eq, beq_iff_eq] at hk
  simp only [xexec] at h
  obtain ⟨⟨hd, -⟩, rfl, ht⟩ := hk
  obtain ⟨x, st, rfl, hh⟩ := xpI_s h
  replace h := hh
  clear hh
  split at h
  · next hc =>
    obtain rfl := xk0_s h
    exact ⟨xle_r _, fun _ _ _ K hn1 ls H locs cells slots hls hSt => lv_if_lt hC.1 hC.2.1 hd ht (fun _ => K hn1 ls H locs cells slots hls hSt) (fun g => absurd hc g)⟩
  · next hc =>
    obtain rfl := xk0_s h
    exact ⟨xle_r _, fun _ _ _ K hn1 ls H locs cells slots hls hSt => lv_if_lt hC.1 hC.2.1 hd ht (fun g => absurd g hc) (fun _ => K hn1 ls H locs cells slots hls hSt)⟩
theorem xz_ifCond_ge {q : Int} (hC : xCx p R s m meth c D z0 w0 mi) (hn : n = xml mi) (hk : xchk mi pc ((.ifCond .ge q), len, a, b, cv, mm) = true) (h : xexec cal (.ifCond .ge q) pc len a b cv lo st w xk0 xr0 = some z) : xG p l e R s m args below meth c Q D z0 w0 wE n mi pc lo st w z := by
  simp only [xchk, Bool.and_eq_true, decide_eq_true_eq, beq_iff_eq] at hk
  simp only [xexec] at h
  obtain ⟨⟨hd, -⟩, rfl, ht⟩ := hk
  obtain ⟨x, st, rfl, hh⟩ := xpI_s h
  replace h := hh
  clear hh
  split at h
  · next hc =>
    obtain rfl := xk0_s h
    exact ⟨xle_r _, fun _ _ _ K hn1 ls H locs cells slots hls hSt => lv_if_ge hC.1 hC.2.1 hd ht (fun g => absurd hc (xnlt.mpr g)) (fun _ => K hn1 ls H locs cells slots hls hSt)⟩
  · next hc =>
    obtain rfl := xk0_s h
    exact ⟨xle_r _, fun _ _ _ K hn1 ls H locs cells slots hls hSt => lv_if_ge hC.1 hC.2.1 hd ht (fun _ => K hn1 ls H locs cells slots hls hSt) (fun g => absurd (xnlt.mp hc) g)⟩
theorem xz_ifCond_gt {q : Int} (hC : xCx p R s m meth c D z0 w0 mi) (hn : n = xml mi) (hk : xchk mi pc ((.ifCond .gt q), len, a, b, cv, mm) = true) (h : xexec cal (.ifCond .gt q) pc len a b cv lo st w xk0 xr0 = some z) : xG p l e R s m args below meth c Q D z0 w0 wE n mi pc lo st w z := by
  simp only [xchk, Bool.and_eq_true, decide_eq_true_eq, beq_iff_eq] at hk
  simp only [xexec] at h
  obtain ⟨⟨hd, -⟩, rfl, ht⟩ := hk
  obtain ⟨x, st, rfl, hh⟩ := xpI_s h
  replace h := hh
  clear hh
  split at h
  · next hc =>
    obtain rfl := xk0_s h
    exact ⟨xle_r _, fun _ _ _ K hn1 ls H locs cells slots hls hSt => lv_if_gt hC.1 hC.2.1 hd ht (fun _ => K hn1 ls H locs cells slots hls hSt) (fun g => absurd hc g)⟩
  · next hc =>
    obtain rfl := xk0_s h
    exact ⟨xle_r _, fun _ _ _ K hn1 ls H locs cells slots hls hSt => lv_if_gt hC.1 hC.2.1 hd ht (fun g => absurd g hc) (fun _ => K hn1 ls H locs cells slots hls hSt)⟩
theorem xz_ifCond_le {q : Int} (hC : xCx p R s m meth c D z0 w0 mi) (hn : n = xml mi) (hk : xchk mi pc ((.ifCond .le q), len, a, b, cv, mm) = true) (h : xexec cal (.ifCond .le q) pc len a b cv lo st w xk0 xr0 = some z) : xG p l e R s m args below meth c Q D z0 w0 wE n mi pc lo st w z := by
  simp only [xchk, Bool.and_eq_true, decide_eq_true_eq, beq_iff_eq] at hk
  simp only [xexec] at h
  obtain ⟨⟨hd, -⟩, rfl, ht⟩ := hk
  obtain ⟨x, st, rfl, hh⟩ := xpI_s h
  replace h := hh
  clear hh
  split at h
  · next hc =>
    obtain rfl := xk0_s h
    exact ⟨xle_r _, fun _ _ _ K hn1 ls H locs cells slots hls hSt => lv_if_le hC.1 hC.2.1 hd ht (fun g => absurd hc (xnlt.mpr g)) (fun _ => K hn1 ls H locs cells slots hls hSt)⟩
  · next hc =>
    obtain rfl := xk0_s h
    exact ⟨xle_r _, fun _ _ _ K hn1 ls H locs cells slots hls hSt => lv_if_le hC.1 hC.2.1 hd ht (fun _ => K hn1 ls H locs cells slots hls hSt) (fun g => absurd (xnlt.mp hc) g)⟩
theorem xz_if_icmp_eq {q : Int} (hC : xCx p R s m meth c D z0 w0 mi) (hn : n = xml mi) (hk : xchk mi pc ((.if_icmp .eq q), len, a, b, cv, mm) = true) (h : xexec cal (.if_icmp .eq q) pc len a b cv lo st w xk0 xr0 = some z) : xG p l e R s m args below meth c Q D z0 w0 wE n mi pc lo st w z := by
  simp only [xchk, Bool.and_eq_true, decide_eq_true_eq, beq_iff_eq] at hk
  simp only [xexec] at h
  obtain ⟨⟨hd, -⟩, rfl, ht⟩ := hk
  obtain ⟨y, st, rfl, hh⟩ := xpI_s h
  replace h := hh
  clear hh
  obtain ⟨x, st, rfl, hh⟩ := xpI_s h
  replace h := hh
  clear hh
  split at h
  · next hc =>
    obtain rfl := xk0_s h
    exact ⟨xle_r _, fun _ _ _ K hn1 ls H locs cells slots hls hSt => lv_icmp_eq hC.1 hC.2.1 hd ht (fun _ => K hn1 ls H locs cells slots hls hSt) (fun g => absurd hc g)⟩
  · next hc =>
    obtain rfl := xk0_s h
    exact ⟨xle_r _, fun _ _ _ K hn1 ls H locs cells slots hls hSt => lv_icmp_eq hC.1 hC.2.1 hd ht (fun g => absurd g hc) (fun _ => K hn1 ls H locs cells slots hls hSt)⟩
theorem xz_if_icmp_ne {q : Int} (hC : xCx p R s m meth c D z0 w0 mi) (hn : n = xml mi) (hk : xchk mi pc ((.if_icmp .ne q), len, a, b, cv, mm) = true) (h : xexec cal (.if_icmp .ne q) pc len a b cv lo st w xk0 xr0 = some z) : xG p l e R s m args below meth c Q D z0 w0 wE n mi pc lo st w z := by
  simp only [xchk, Bool.and_eq_true, decide_eq_true_eq, beq_iff_eq] at hk
  simp only [xexec] at h
  obtain ⟨⟨hd, -⟩, rfl, ht⟩ := hk
  obtain ⟨y, st, rfl, hh⟩ := xpI_s h
  replace h := hh
  clear hh
  obtain ⟨x, st, rfl, hh⟩ := xpI_s h
  replace h := hh
  clear hh
  split at h
  · next hc =>
    obtain rfl := xk0_s h
    exact ⟨xle_r _, fun _ _ _ K hn1 ls H locs cells slots hls hSt => lv_icmp_ne hC.1 hC.2.1 hd ht (fun g => absurd hc g) (fun _ => K hn1 ls H locs cells slots hls hSt)⟩
  · next hc =>
    obtain rfl := xk0_s h
    exact ⟨xle_r _, fun _ _ _ K hn1 ls H locs cells slots hls hSt => lv_icmp_ne hC.1 hC.2.1 hd ht (fun _ => K hn1 ls H locs cells slots hls hSt) (fun g => absurd g hc)⟩
theorem xz_if_icmp_lt {q : Int} (hC : xCx p R s m meth c D z0 w0 mi) (hn : n = xml mi) (hk : xchk mi pc ((.if_icmp .lt q), len, a, b, cv, mm) = true) (h : xexec cal (.if_icmp .lt q) pc len a b cv lo st w xk0 xr0 = some z) : xG p l e R s m args below meth c Q D z0 w0 wE n mi pc lo st w z := by
  simp only [xchk, Bool.and_eq_true, decide_eq_true_eq, beq_iff_eq] at hk
  simp only [xexec] at h
  obtain ⟨⟨hd, -⟩, rfl, ht⟩ := hk
  obtain ⟨y, st, rfl, hh⟩ := xpI_s h
  replace h := hh
  clear hh
  obtain ⟨x, st, rfl, hh⟩ := xpI_s h
  replace h := hh
  clear hh
  split at h
  · next hc =>
    obtain rfl := xk0_s h
    exact ⟨xle_r _, fun _ _ _ K hn1 ls H locs cells slots hls hSt => lv_icmp_lt hC.1 hC.2.1 hd ht (fun _ => K hn1 ls H locs cells slots hls hSt) (fun g => absurd hc g)⟩
  · next hc =>
    obtain rfl := xk0_s h
    exact ⟨xle_r _, fun _ _ _ K hn1 ls H locs cells slots hls hSt => lv_icmp_lt hC.1 hC.2.1 hd ht (fun g => absurd g hc) (fun _ => K hn1 ls H locs cells slots hls hSt)⟩
theorem xz_if_icmp_ge {q : Int} (hC : xCx p R s m meth c D z0 w0 mi) (hn : n = xml mi) (hk : xchk mi pc ((.if_icmp .ge q), len, a, b, cv, mm) = true) (h : xexec cal (.if_icmp .ge q) pc len a b cv lo st w xk0 xr0 = some z) : xG p l e R s m args below meth c Q D z0 w0 wE n mi pc lo st w z := by
  simp only [xchk, Bool.and_eq_true, decide_eq_true_eq, beq_iff_eq] at hk
  simp only [xexec] at h
  obtain ⟨⟨hd, -⟩, rfl, ht⟩ := hk
  obtain ⟨y, st, rfl, hh⟩ := xpI_s h
  replace h := hh
  clear hh
  obtain ⟨x, st, rfl, hh⟩ := xpI_s h
  replace h := hh
  clear hh
  split at h
  · next hc =>
    obtain rfl := xk0_s h
    exact ⟨xle_r _, fun _ _ _ K hn1 ls H locs cells slots hls hSt => lv_icmp_ge hC.1 hC.2.1 hd ht (fun g => absurd hc (xnlt.mpr g)) (fun _ => K hn1 ls H locs cells slots hls hSt)⟩
  · next hc =>
    obtain rfl := xk0_s h
    exact ⟨xle_r _, fun _ _ _ K hn1 ls H locs cells slots hls hSt => lv_icmp_ge hC.1 hC.2.1 hd ht (fun _ => K hn1 ls H locs cells slots hls hSt) (fun g => absurd (xnlt.mp hc) g)⟩
theorem xz_if_icmp_gt {q : Int} (hC : xCx p R s m meth c D z0 w0 mi) (hn : n = xml mi) (hk : xchk mi pc ((.if_icmp .gt q), len, a, b, cv, mm) = true) (h : xexec cal (.if_icmp .gt q) pc len a b cv lo st w xk0 xr0 = some z) : xG p l e R s m args below meth c Q D z0 w0 wE n mi pc lo st w z := by
  simp only [xchk, Bool.and_eq_true, decide_eq_true_eq, beq_iff_eq] at hk
  simp only [xexec] at h
  obtain ⟨⟨hd, -⟩, rfl, ht⟩ := hk
  obtain ⟨y, st, rfl, hh⟩ := xpI_s h
  replace h := hh
  clear hh
  obtain ⟨x, st, rfl, hh⟩ := xpI_s h
  replace h := hh
  clear hh
  split at h
  · next hc =>
    obtain rfl := xk0_s h
    exact ⟨xle_r _, fun _ _ _ K hn1 ls H locs cells slots hls hSt => lv_icmp_gt hC.1 hC.2.1 hd ht (fun _ => K hn1 ls H locs cells slots hls hSt) (fun g => absurd hc g)⟩
  · next hc =>
    obtain rfl := xk0_s h
    exact ⟨xle_r _, fun _ _ _ K hn1 ls H locs cells slots hls hSt => lv_icmp_gt hC.1 hC.2.1 hd ht (fun g => absurd g hc) (fun _ => K hn1 ls H locs cells slots hls hSt)⟩
theorem xz_if_icmp_le {q : Int} (hC : xCx p R s m meth c D z0 w0 mi) (hn : n = xml mi) (hk : xchk mi pc ((.if_icmp .le q), len, a, b, cv, mm) = true) (h : xexec cal (.if_icmp .le q) pc len a b cv lo st w xk0 xr0 = some z) : xG p l e R s m args below meth c Q D z0 w0 wE n mi pc lo st w z := by
  simp only [xchk, Bool.and_eq_true, decide_eq_true_eq, beq_iff_eq] at hk
  simp only [xexec] at h
  obtain ⟨⟨hd, -⟩, rfl, ht⟩ := hk
  obtain ⟨y, st, rfl, hh⟩ := xpI_s h
  replace h := hh
  clear hh
  obtain ⟨x, st, rfl, hh⟩ := xpI_s h
  replace h := hh
  clear hh
  split at h
  · next hc =>
    obtain rfl := xk0_s h
    exact ⟨xle_r _, fun _ _ _ K hn1 ls H locs cells slots hls hSt => lv_icmp_le hC.1 hC.2.1 hd ht (fun g => absurd hc (xnlt.mpr g)) (fun _ => K hn1 ls H locs cells slots hls hSt)⟩
  · next hc =>
    obtain rfl := xk0_s h
    exact ⟨xle_r _, fun _ _ _ K hn1 ls H locs cells slots hls hSt => lv_icmp_le hC.1 hC.2.1 hd ht (fun _ => K hn1 ls H locs cells slots hls hSt) (fun g => absurd (xnlt.mp hc) g)⟩
theorem xz_if_acmp_ne {q : Int} (hC : xCx p R s m meth c D z0 w0 mi) (hn : n = xml mi) (hk : xchk mi pc ((.if_acmp .ne q), len, a, b, cv, mm) = true) (h : xexec cal (.if_acmp .ne q) pc len a b cv lo st w xk0 xr0 = some z) : xG p l e R s m args below meth c Q D z0 w0 wE n mi pc lo st w z := by
  simp only [xchk, Bool.and_eq_true, decide_eq_true_eq, beq_iff_eq] at hk
  simp only [xexec] at h
  obtain ⟨⟨hd, -⟩, rfl, ht⟩ := hk
  obtain ⟨y, st, rfl, hh⟩ := xpA_s h
  replace h := hh
  clear hh
  obtain ⟨x, st, rfl, hh⟩ := xpA_s h
  replace h := hh
  clear hh
  split at h
  · next hc =>
    obtain rfl := xk0_s h
    exact ⟨xle_r _, fun _ _ _ K hn1 ls H locs cells slots hls hSt => lv_acmp_ne (rx := x) (ry := y) hC.1 hC.2.1 hd ht (fun g => absurd hc g) (fun _ => K hn1 ls H locs cells slots hls hSt)⟩
  · next hc =>
    obtain rfl := xk0_s h
    exact ⟨xle_r _, fun _ _ _ K hn1 ls H locs cells slots hls hSt => lv_acmp_ne (rx := x) (ry := y) hC.1 hC.2.1 hd ht (fun _ => K hn1 ls H locs cells slots hls hSt) (fun g => absurd g hc)⟩
theorem xz_ifnonnull {q : Int} (hC : xCx p R s m meth c D z0 w0 mi) (hn : n = xml mi) (hk : xchk mi pc ((.ifnonnull q), len, a, b, cv, mm) = true) (h : xexec cal (.ifnonnull q) pc len a b cv lo st w xk0 xr0 = some z) : xG p l e R s m args below meth c Q D z0 w0 wE n mi pc lo st w z := by
  simp only [xchk, Bool.and_eq_true, decide_eq_true_eq, beq_iff_eq] at hk
  simp only [xexec] at h
  obtain ⟨⟨hd, -⟩, rfl, ht⟩ := hk
  obtain ⟨x, st, rfl, hh⟩ := xpA_s h
  replace h := hh
  clear hh
  split at h
  · next hc =>
    subst hc
    obtain rfl := xk0_s h
    exact ⟨xle_r _, fun _ _ _ K hn1 ls H locs cells slots hls hSt => lv_ifnonnullN hC.1 hC.2.1 hd (K hn1 ls H locs cells slots hls hSt)⟩
  · next hc =>
    obtain rfl := xk0_s h
    cases x with
    | none => exact absurd rfl hc
    | some x => exact ⟨xle_r _, fun _ _ _ K hn1 ls H locs cells slots hls hSt => lv_ifnonnull hC.1 hC.2.1 hd ht (K hn1 ls H locs cells slots hls hSt)⟩
theorem xz_goto {q : Int} (hC : xCx p R s m meth c D z0 w0 mi) (hn : n = xml mi) (hk : xchk mi pc ((.goto q), len, a, b, cv, mm) = true) (h : xexec cal (.goto q) pc len a b cv lo st w xk0 xr0 = some z) : xG p l e R s m args below meth c Q D z0 w0 wE n mi pc lo st w z := by
  simp only [xchk, Bool.and_eq_true, decide_eq_true_eq, beq_iff_eq] at hk
  simp only [xexec] at h
  obtain ⟨⟨hd, -⟩, rfl, ht⟩ := hk
  obtain rfl := xk0_s h
  exact ⟨xle_r _, fun _ _ _ K hn1 ls H locs cells slots hls hSt => lv_goto hC.1 hC.2.1 hd ht (K hn1 ls H locs cells slots hls hSt)⟩
theorem xz_tableswitch {q1 q2 q3 : Int} {q4 : Array Int} (hC : xCx p R s m meth c D z0 w0 mi) (hn : n = xml mi) (hk : xchk mi pc ((.tableswitch q1 q2 q3 q4), len, a, b, cv, mm) = true) (h : xexec cal (.tableswitch q1 q2 q3 q4) pc len a b cv lo st w xk0 xr0 = some z) : xG p l e R s m args below meth c Q D z0 w0 wE n mi pc lo st w z := by
  simp only [xchk, Bool.and_eq_true, decide_eq_true_eq, beq_iff_eq] at hk
  simp only [xexec] at h
  obtain ⟨⟨hd, -⟩, ⟨⟨⟨ht, h0⟩, h1⟩, h2⟩, h3⟩ := hk
  obtain ⟨x, st, rfl, hh⟩ := xpI_s h
  replace h := hh
  clear hh
  have hal : ∀ o ∈ q4.toList, 0 ≤ (pc : Int) + o := fun o ho => of_decide_eq_true (List.all_eq_true.mp h3 o ho)
  have hsz : q4.toList.length = q4.size := Array.length_toList
  rcases xsw_s _ _ h with ⟨j, o, hj, hx, h⟩ | ⟨hx, h⟩
  · obtain rfl := xk0_s h
    have hjl : j < q4.toList.length := (List.getElem?_eq_some_iff.mp hj).1
    have hxi : x.toInt = q2 + j := by
      rw [hx, Int32.toInt_ofInt_of_le (by omega) (by omega)]
    have ho : q4[(x.toInt - q2).toNat]? = some o := by
      rw [hxi, show (q2 + (j : Int) - q2).toNat = j by omega, ← Array.getElem?_toList]
      exact hj
    have htt : (pc : Int) + o = ((((pc : Int) + o).toNat : Nat) : Int) := (Int.toNat_of_nonneg (hal o (List.mem_of_getElem? hj))).symm
    exact ⟨xle_r _, fun _ _ _ K hn1 ls H locs cells slots hls hSt => lv_tableIn hC.1 hC.2.1 hd (by omega) (by omega) ho htt (K hn1 ls H locs cells slots hls hSt)⟩
  · obtain rfl := xk0_s h
    have hout : x.toInt < q2 ∨ q3 < x.toInt := by
      by_cases g : x.toInt < q2 ∨ q3 < x.toInt
      · exact g
      · exfalso
        have g1 : q2 ≤ x.toInt ∧ x.toInt ≤ q3 := ⟨by omega, by omega⟩
        refine hx (x.toInt - q2).toNat (by omega) ?_
        rw [show q2 + ((x.toInt - q2).toNat : Int) = x.toInt by omega]
        exact (Int32.ofInt_toInt x).symm
    exact ⟨xle_r _, fun _ _ _ K hn1 ls H locs cells slots hls hSt => lv_tableOut hC.1 hC.2.1 hd hout ht (K hn1 ls H locs cells slots hls hSt)⟩
theorem xz_ireturn (hC : xCx p R s m meth c D z0 w0 mi) (hn : n = xml mi) (hk : xchk mi pc (.ireturn, len, a, b, cv, mm) = true) (h : xexec cal .ireturn pc len a b cv lo st w xk0 xr0 = some z) : xG p l e R s m args below meth c Q D z0 w0 wE n mi pc lo st w z := by
  simp only [xchk, Bool.and_eq_true, decide_eq_true_eq, beq_iff_eq] at hk
  simp only [xexec] at h
  obtain ⟨⟨hd, -⟩, rfl, hr⟩ := hk
  obtain ⟨x, st, rfl, hh⟩ := xpI_s h
  replace h := hh
  clear hh
  obtain ⟨rfl, hh⟩ := xnl_s h
  replace h := hh
  clear hh
  cases b with
  | zero =>
    obtain rfl := xr0_s h
    exact ⟨xle_r _, fun _ _ _ K hn1 ls H locs cells slots hls hSt => K pc ls H locs cells slots hSt hd (Or.inl hr)⟩
  | succ b =>
    simp only at h
    split at h
    · next hx =>
      obtain rfl := xr0_s h
      exact ⟨xle_r _, fun _ _ _ K hn1 ls H locs cells slots hls hSt => K pc ls H locs cells slots hSt hd (Or.inr ⟨by simpa using hr, hx⟩)⟩
    · cases h
theorem xz_lreturn (hC : xCx p R s m meth c D z0 w0 mi) (hn : n = xml mi) (hk : xchk mi pc (.lreturn, len, a, b, cv, mm) = true) (h : xexec cal .lreturn pc len a b cv lo st w xk0 xr0 = some z) : xG p l e R s m args below meth c Q D z0 w0 wE n mi pc lo st w z := by
  simp only [xchk, Bool.and_eq_true, decide_eq_true_eq, beq_iff_eq] at hk
  simp only [xexec] at h
  obtain ⟨⟨hd, -⟩, rfl, hr⟩ := hk
  obtain ⟨x, st, rfl, hh⟩ := xpJ_s h
  replace h := hh
  clear hh
  obtain ⟨rfl, hh⟩ := xnl_s h
  replace h := hh
  clear hh
  obtain rfl := xr0_s h
  exact ⟨xle_r _, fun _ _ _ K hn1 ls H locs cells slots hls hSt => K pc ls H locs cells slots hSt hd (hr)⟩
theorem xz_dreturn (hC : xCx p R s m meth c D z0 w0 mi) (hn : n = xml mi) (hk : xchk mi pc (.dreturn, len, a, b, cv, mm) = true) (h : xexec cal .dreturn pc len a b cv lo st w xk0 xr0 = some z) : xG p l e R s m args below meth c Q D z0 w0 wE n mi pc lo st w z := by
  simp only [xchk, Bool.and_eq_true, decide_eq_true_eq, beq_iff_eq] at hk
  simp only [xexec] at h
  obtain ⟨⟨hd, -⟩, rfl, hr⟩ := hk
  obtain ⟨x, st, rfl, hh⟩ := xpD_s h
  replace h := hh
  clear hh
  obtain ⟨rfl, hh⟩ := xnl_s h
  replace h := hh
  clear hh
  obtain rfl := xr0_s h
  exact ⟨xle_r _, fun _ _ _ K hn1 ls H locs cells slots hls hSt => K pc ls H locs cells slots hSt hd (hr)⟩
theorem xz_areturn (hC : xCx p R s m meth c D z0 w0 mi) (hn : n = xml mi) (hk : xchk mi pc (.areturn, len, a, b, cv, mm) = true) (h : xexec cal .areturn pc len a b cv lo st w xk0 xr0 = some z) : xG p l e R s m args below meth c Q D z0 w0 wE n mi pc lo st w z := by
  simp only [xchk, Bool.and_eq_true, decide_eq_true_eq, beq_iff_eq] at hk
  simp only [xexec] at h
  obtain ⟨⟨hd, -⟩, rfl, hr⟩ := hk
  obtain ⟨x, st, rfl, hh⟩ := xpA_s h
  replace h := hh
  clear hh
  obtain ⟨rfl, hh⟩ := xnl_s h
  replace h := hh
  clear hh
  obtain rfl := xr0_s h
  have hr2 : ∃ q, (xmi mi).2.2.2 = some (.object q) := by
    split at hr
    · next q hq => exact ⟨q, hq⟩
    · cases hr
  exact ⟨xle_r _, fun _ _ _ K hn1 ls H locs cells slots hls hSt => K pc ls H locs cells slots hSt hd (hr2)⟩
theorem xz_return_ (hC : xCx p R s m meth c D z0 w0 mi) (hn : n = xml mi) (hk : xchk mi pc (.return_, len, a, b, cv, mm) = true) (h : xexec cal .return_ pc len a b cv lo st w xk0 xr0 = some z) : xG p l e R s m args below meth c Q D z0 w0 wE n mi pc lo st w z := by
  simp only [xchk, Bool.and_eq_true, decide_eq_true_eq, beq_iff_eq] at hk
  simp only [xexec] at h
  obtain ⟨⟨hd, -⟩, rfl, hr⟩ := hk
  obtain ⟨rfl, hh⟩ := xnl_s h
  replace h := hh
  clear hh
  obtain rfl := xr0_s h
  exact ⟨xle_r _, fun _ _ _ K hn1 ls H locs cells slots hls hSt => K pc ls H locs cells slots hSt hd (hr)⟩
theorem xz_getfield {q : Nat} (hC : xCx p R s m meth c D z0 w0 mi) (hn : n = xml mi) (hk : xchk mi pc ((.getfield q), len, a, b, cv, mm) = true) (h : xexec cal (.getfield q) pc len a b cv lo st w xk0 xr0 = some z) : xG p l e R s m args below meth c Q D z0 w0 wE n mi pc lo st w z := by
  simp only [xchk, Bool.and_eq_true, decide_eq_true_eq, beq_iff_eq] at hk
  simp only [xexec] at h
  obtain ⟨⟨hd, -⟩, ⟨⟨rfl, hin⟩, h8⟩, hk2⟩ := hk
  rw [Nat.blt_eq] at h8 hk2
  obtain ⟨r, st, rfl, hh⟩ := xpA_s h
  replace h := hh
  clear hh
  obtain ⟨o, rfl, hh⟩ := xbi_s h
  replace h := hh
  clear hh
  split at h
  · obtain ⟨x, hx, h⟩ := xbi_s h
    obtain ⟨fs, ho, hv⟩ := xgI_s hx
    obtain rfl := xk0_s h
    exact ⟨xle_r _, fun _ _ _ K => xh_get hC hd hin h8 hk2 ho hv K⟩
  · obtain ⟨x, hx, h⟩ := xbi_s h
    obtain ⟨fs, ho, hv⟩ := xgJ_s hx
    obtain rfl := xk0_s h
    exact ⟨xle_r _, fun _ _ _ K => xh_get hC hd hin h8 hk2 ho hv K⟩
  · obtain ⟨x, hx, h⟩ := xbi_s h
    obtain ⟨fs, ho, hv⟩ := xgD_s hx
    obtain rfl := xk0_s h
    exact ⟨xle_r _, fun _ _ _ K => xh_get hC hd hin h8 hk2 ho hv K⟩
  · obtain ⟨x, hx, h⟩ := xbi_s h
    obtain ⟨fs, ho, hv⟩ := xgA_s hx
    obtain rfl := xk0_s h
    exact ⟨xle_r _, fun _ _ _ K => xh_get hC hd hin h8 hk2 ho hv K⟩
  · cases h
theorem xrefok {ty : FieldType} (h : ty.isReference = true) (x : Option Nat) : narrow ty (xv (xA x)) = xv (xA x) ∧ fits ty (xv (xA x)) = true := by
  cases ty <;> simp [FieldType.isReference] at h <;> cases x <;> exact ⟨rfl, rfl⟩
theorem xz_putfield {q : Nat} (hC : xCx p R s m meth c D z0 w0 mi) (hn : n = xml mi) (hk : xchk mi pc ((.putfield q), len, a, b, cv, mm) = true) (h : xexec cal (.putfield q) pc len a b cv lo st w xk0 xr0 = some z) : xG p l e R s m args below meth c Q D z0 w0 wE n mi pc lo st w z := by
  simp only [xchk, Bool.and_eq_true, decide_eq_true_eq, beq_iff_eq] at hk
  simp only [xexec] at h
  obtain ⟨⟨hd, -⟩, ⟨⟨⟨⟨rfl, hin⟩, h8⟩, hk2⟩, hty⟩, hf⟩ := hk
  rw [Nat.blt_eq] at h8 hk2
  have hfin : (xTT a b).2.2.2 = false ∨ ((xmi mi).2.1.name = "<init>" ∧ (xTT a b).1 = xcs (xmi mi).1) := by
    simp only [Bool.or_eq_true, Bool.not_eq_true', Bool.and_eq_true, beq_iff_eq] at hf
    exact hf
  split at h
  · obtain ⟨x, st, rfl, hh⟩ := xpI_s h
    replace h := hh
    clear hh
    obtain ⟨r, st, rfl, hh⟩ := xpA_s h
    replace h := hh
    clear hh
    obtain ⟨o, rfl, hh⟩ := xbi_s h
    replace h := hh
    clear hh
    obtain ⟨w2, hx, h⟩ := xbi_s h
    obtain ⟨fs, ho, hl, rfl⟩ := xput_s hx
    obtain rfl := xk0_s h
    exact ⟨xle_set _ _ _, fun _ _ _ K => xh_put hC hd hin h8 hk2 ho hl (by rw [eq_of_beq hty]; exact ⟨rfl, rfl⟩) hfin K⟩
  · obtain ⟨x, st, rfl, hh⟩ := xpJ_s h
    replace h := hh
    clear hh
    obtain ⟨r, st, rfl, hh⟩ := xpA_s h
    replace h := hh
    clear hh
    obtain ⟨o, rfl, hh⟩ := xbi_s h
    replace h := hh
    clear hh
    obtain ⟨w2, hx, h⟩ := xbi_s h
    obtain ⟨fs, ho, hl, rfl⟩ := xput_s hx
    obtain rfl := xk0_s h
    exact ⟨xle_set _ _ _, fun _ _ _ K => xh_put hC hd hin h8 hk2 ho hl (by rw [eq_of_beq hty]; exact ⟨rfl, rfl⟩) hfin K⟩
  · obtain ⟨x, st, rfl, hh⟩ := xpD_s h
    replace h := hh
    clear hh
    obtain ⟨r, st, rfl, hh⟩ := xpA_s h
    replace h := hh
    clear hh
    obtain ⟨o, rfl, hh⟩ := xbi_s h
    replace h := hh
    clear hh
    obtain ⟨w2, hx, h⟩ := xbi_s h
    obtain ⟨fs, ho, hl, rfl⟩ := xput_s hx
    obtain rfl := xk0_s h
    exact ⟨xle_set _ _ _, fun _ _ _ K => xh_put hC hd hin h8 hk2 ho hl (by rw [eq_of_beq hty]; exact ⟨rfl, rfl⟩) hfin K⟩
  · obtain ⟨x, st, rfl, hh⟩ := xpA_s h
    replace h := hh
    clear hh
    obtain ⟨r, st, rfl, hh⟩ := xpA_s h
    replace h := hh
    clear hh
    obtain ⟨o, rfl, hh⟩ := xbi_s h
    replace h := hh
    clear hh
    obtain ⟨w2, hx, h⟩ := xbi_s h
    obtain ⟨fs, ho, hl, rfl⟩ := xput_s hx
    obtain rfl := xk0_s h
    exact ⟨xle_set _ _ _, fun _ _ _ K => xh_put hC hd hin h8 hk2 ho hl (xrefok hty x) hfin K⟩
  · cases h
theorem xz_getstatic {q : Nat} (hC : xCx p R s m meth c D z0 w0 mi) (hn : n = xml mi) (hk : xchk mi pc ((.getstatic q), len, a, b, cv, mm) = true) (h : xexec cal (.getstatic q) pc len a b cv lo st w xk0 xr0 = some z) : xG p l e R s m args below meth c Q D z0 w0 wE n mi pc lo st w z := by
  simp only [xchk, Bool.and_eq_true, decide_eq_true_eq, beq_iff_eq] at hk
  simp only [xexec] at h
  obtain ⟨⟨hd, -⟩, ⟨rfl, h6⟩, rfl⟩ := hk
  obtain rfl := xk0_s h
  exact ⟨xle_r _, fun _ _ _ K => xh_gets hC hd h6 K⟩
theorem xz_new {q : Nat} (hC : xCx p R s m meth c D z0 w0 mi) (hn : n = xml mi) (hk : xchk mi pc ((.new q), len, a, b, cv, mm) = true) (h : xexec cal (.new q) pc len a b cv lo st w xk0 xr0 = some z) : xG p l e R s m args below meth c Q D z0 w0 wE n mi pc lo st w z := by
  simp only [xchk, Bool.and_eq_true, decide_eq_true_eq, beq_iff_eq] at hk
  simp only [xexec] at h
  obtain ⟨⟨hd, -⟩, ⟨⟨rfl, hin⟩, h8⟩, rfl⟩ := hk
  rw [Nat.blt_eq] at h8
  obtain rfl := xk0_s h
  exact ⟨xle_push _ _ _, fun h1 h2 h3 K => xh_new hC hd hin h8 h1 h2 h3 K⟩
theorem xle_new {w w2 : xW} {k : Nat} {q : Int32} (h : xnew w k q = some w2) : xle w w2 := by
  unfold xnew at h
  split at h
  · cases h; exact xle_push _ _ _
  · cases h
theorem xle_sI {w w2 : xW} {o : Nat} {i x : Int32} (h : xsI w o i x = some w2) : xle w w2 := by
  unfold xsI at h
  split at h
  · split at h
    · cases h; exact xle_set _ _ _
    · cases h
  · cases h
theorem xle_sZ {w w2 : xW} {o : Nat} {i x : Int32} (h : xsZ w o i x = some w2) : xle w w2 := by
  unfold xsZ at h
  split at h
  · split at h
    · cases h; exact xle_set _ _ _
    · cases h
  · cases h
theorem xle_sJ {w w2 : xW} {o : Nat} {i : Int32} {x : Int64} (h : xsJ w o i x = some w2) : xle w w2 := by
  unfold xsJ at h
  split at h
  · split at h
    · cases h; exact xle_set _ _ _
    · cases h
  · cases h
theorem xle_sD {w w2 : xW} {o : Nat} {i : Int32} {x : UInt64} (h : xsD w o i x = some w2) : xle w w2 := by
  unfold xsD at h
  split at h
  · split at h
    · cases h; exact xle_set _ _ _
    · cases h
  · cases h
theorem xle_sA {w w2 : xW} {o : Nat} {i : Int32} {x : Nat} (h : xsA w o i x = some w2) : xle w w2 := by
  unfold xsA at h
  split at h
  · obtain ⟨q, -, h⟩ := xbi_s h
    split at h
    · cases h; exact xle_set _ _ _
    · cases h
  · cases h
theorem xz_newarray {q : ArrayType} (hC : xCx p R s m meth c D z0 w0 mi) (hn : n = xml mi) (hk : xchk mi pc ((.newarray q), len, a, b, cv, mm) = true) (h : xexec cal (.newarray q) pc len a b cv lo st w xk0 xr0 = some z) : xG p l e R s m args below meth c Q D z0 w0 wE n mi pc lo st w z := by
  simp only [xchk, Bool.and_eq_true, decide_eq_true_eq, beq_iff_eq] at hk
  simp only [xexec] at h
  obtain ⟨⟨hd, -⟩, rfl, ht⟩ := hk
  obtain ⟨x, st, rfl, hh⟩ := xpI_s h
  replace h := hh
  clear hh
  obtain ⟨w2, hw, h⟩ := xbi_s h
  obtain rfl := xk0_s h
  cases q with
  | int =>
    simp only [beq_iff_eq] at ht
    subst ht
    exact ⟨xle_new hw, fun h1 h2 h3 K => xh_newa hC hd rfl (xgd_at (i := 106) (by decide +kernel) rfl) (by decide) (by decide) hw (fun _ => rfl) h1 h2 h3 K⟩
  | long =>
    simp only [beq_iff_eq] at ht
    subst ht
    exact ⟨xle_new hw, fun h1 h2 h3 K => xh_newa hC hd rfl (xgd_at (i := 648) (by decide +kernel) rfl) (by decide) (by decide) hw (fun _ => rfl) h1 h2 h3 K⟩
  | double =>
    simp only [beq_iff_eq] at ht
    subst ht
    exact ⟨xle_new hw, fun h1 h2 h3 K => xh_newa hC hd rfl (xgd_at (i := 649) (by decide +kernel) rfl) (by decide) (by decide) hw (fun _ => rfl) h1 h2 h3 K⟩
  | boolean =>
    simp only [beq_iff_eq] at ht
    subst ht
    exact ⟨xle_new hw, fun h1 h2 h3 K => xh_newa hC hd rfl (xgd_at (i := 650) (by decide +kernel) rfl) (by decide) (by decide) hw (fun _ => rfl) h1 h2 h3 K⟩
  | _ => cases ht
theorem xz_anewarray {q : Nat} (hC : xCx p R s m meth c D z0 w0 mi) (hn : n = xml mi) (hk : xchk mi pc ((.anewarray q), len, a, b, cv, mm) = true) (h : xexec cal (.anewarray q) pc len a b cv lo st w xk0 xr0 = some z) : xG p l e R s m args below meth c Q D z0 w0 wE n mi pc lo st w z := by
  simp only [xchk, Bool.and_eq_true, decide_eq_true_eq, beq_iff_eq] at hk
  simp only [xexec] at h
  obtain ⟨⟨hd, -⟩, ⟨rfl, hin⟩, ha⟩ := hk
  obtain ⟨x, st, rfl, hh⟩ := xpI_s h
  replace h := hh
  clear hh
  obtain ⟨w2, hw, h⟩ := xbi_s h
  obtain rfl := xk0_s h
  have ha2 : a = 4 ∨ a = 5 ∨ a = 6 := by
    simp only [Bool.or_eq_true, beq_iff_eq] at ha
    omega
  exact ⟨xle_new hw, fun h1 h2 h3 K => xh_newq hC hd hin ha2 hw h1 h2 h3 K⟩
theorem xz_arraylength (hC : xCx p R s m meth c D z0 w0 mi) (hn : n = xml mi) (hk : xchk mi pc (.arraylength, len, a, b, cv, mm) = true) (h : xexec cal .arraylength pc len a b cv lo st w xk0 xr0 = some z) : xG p l e R s m args below meth c Q D z0 w0 wE n mi pc lo st w z := by
  simp only [xchk, Bool.and_eq_true, decide_eq_true_eq, beq_iff_eq] at hk
  simp only [xexec] at h
  obtain ⟨⟨hd, -⟩, rfl⟩ := hk
  obtain ⟨r, st, rfl, hh⟩ := xpA_s h
  replace h := hh
  clear hh
  obtain ⟨o, rfl, hh⟩ := xbi_s h
  replace h := hh
  clear hh
  obtain ⟨x, hx, h⟩ := xbi_s h
  unfold xlen at hx
  split at hx
  · next q hq =>
    cases hx
    obtain rfl := xk0_s h
    exact ⟨xle_r _, fun _ _ _ K => xh_len hC hd hq K⟩
  · cases hx
theorem xz_iaload (hC : xCx p R s m meth c D z0 w0 mi) (hn : n = xml mi) (hk : xchk mi pc (.iaload, len, a, b, cv, mm) = true) (h : xexec cal .iaload pc len a b cv lo st w xk0 xr0 = some z) : xG p l e R s m args below meth c Q D z0 w0 wE n mi pc lo st w z := by
  simp only [xchk, Bool.and_eq_true, decide_eq_true_eq, beq_iff_eq] at hk
  simp only [xexec] at h
  obtain ⟨⟨hd, -⟩, rfl⟩ := hk
  obtain ⟨i, st, rfl, hh⟩ := xpI_s h
  replace h := hh
  clear hh
  obtain ⟨r, st, rfl, hh⟩ := xpA_s h
  replace h := hh
  clear hh
  obtain ⟨o, rfl, hh⟩ := xbi_s h
  replace h := hh
  clear hh
  obtain ⟨x, hx, h⟩ := xbi_s h
  obtain rfl := xk0_s h
  exact ⟨xle_r _, fun _ _ _ K => xh_ald hC hd hx K⟩
theorem xz_baload (hC : xCx p R s m meth c D z0 w0 mi) (hn : n = xml mi) (hk : xchk mi pc (.baload, len, a, b, cv, mm) = true) (h : xexec cal .baload pc len a b cv lo st w xk0 xr0 = some z) : xG p l e R s m args below meth c Q D z0 w0 wE n mi pc lo st w z := by
  simp only [xchk, Bool.and_eq_true, decide_eq_true_eq, beq_iff_eq] at hk
  simp only [xexec] at h
  obtain ⟨⟨hd, -⟩, rfl⟩ := hk
  obtain ⟨i, st, rfl, hh⟩ := xpI_s h
  replace h := hh
  clear hh
  obtain ⟨r, st, rfl, hh⟩ := xpA_s h
  replace h := hh
  clear hh
  obtain ⟨o, rfl, hh⟩ := xbi_s h
  replace h := hh
  clear hh
  obtain ⟨x, hx, h⟩ := xbi_s h
  obtain rfl := xk0_s h
  exact ⟨xle_r _, fun _ _ _ K => xh_zld hC hd hx K⟩
theorem xz_laload (hC : xCx p R s m meth c D z0 w0 mi) (hn : n = xml mi) (hk : xchk mi pc (.laload, len, a, b, cv, mm) = true) (h : xexec cal .laload pc len a b cv lo st w xk0 xr0 = some z) : xG p l e R s m args below meth c Q D z0 w0 wE n mi pc lo st w z := by
  simp only [xchk, Bool.and_eq_true, decide_eq_true_eq, beq_iff_eq] at hk
  simp only [xexec] at h
  obtain ⟨⟨hd, -⟩, rfl⟩ := hk
  obtain ⟨i, st, rfl, hh⟩ := xpI_s h
  replace h := hh
  clear hh
  obtain ⟨r, st, rfl, hh⟩ := xpA_s h
  replace h := hh
  clear hh
  obtain ⟨o, rfl, hh⟩ := xbi_s h
  replace h := hh
  clear hh
  obtain ⟨x, hx, h⟩ := xbi_s h
  obtain rfl := xk0_s h
  exact ⟨xle_r _, fun _ _ _ K => xh_jld hC hd hx K⟩
theorem xz_daload (hC : xCx p R s m meth c D z0 w0 mi) (hn : n = xml mi) (hk : xchk mi pc (.daload, len, a, b, cv, mm) = true) (h : xexec cal .daload pc len a b cv lo st w xk0 xr0 = some z) : xG p l e R s m args below meth c Q D z0 w0 wE n mi pc lo st w z := by
  simp only [xchk, Bool.and_eq_true, decide_eq_true_eq, beq_iff_eq] at hk
  simp only [xexec] at h
  obtain ⟨⟨hd, -⟩, rfl⟩ := hk
  obtain ⟨i, st, rfl, hh⟩ := xpI_s h
  replace h := hh
  clear hh
  obtain ⟨r, st, rfl, hh⟩ := xpA_s h
  replace h := hh
  clear hh
  obtain ⟨o, rfl, hh⟩ := xbi_s h
  replace h := hh
  clear hh
  obtain ⟨x, hx, h⟩ := xbi_s h
  obtain rfl := xk0_s h
  exact ⟨xle_r _, fun _ _ _ K => xh_dld hC hd hx K⟩
theorem xz_aaload (hC : xCx p R s m meth c D z0 w0 mi) (hn : n = xml mi) (hk : xchk mi pc (.aaload, len, a, b, cv, mm) = true) (h : xexec cal .aaload pc len a b cv lo st w xk0 xr0 = some z) : xG p l e R s m args below meth c Q D z0 w0 wE n mi pc lo st w z := by
  simp only [xchk, Bool.and_eq_true, decide_eq_true_eq, beq_iff_eq] at hk
  simp only [xexec] at h
  obtain ⟨⟨hd, -⟩, rfl⟩ := hk
  obtain ⟨i, st, rfl, hh⟩ := xpI_s h
  replace h := hh
  clear hh
  obtain ⟨r, st, rfl, hh⟩ := xpA_s h
  replace h := hh
  clear hh
  obtain ⟨o, rfl, hh⟩ := xbi_s h
  replace h := hh
  clear hh
  obtain ⟨x, hx, h⟩ := xbi_s h
  obtain rfl := xk0_s h
  exact ⟨xle_r _, fun _ _ _ K => xh_ref hC hd hx K⟩
theorem xz_iastore (hC : xCx p R s m meth c D z0 w0 mi) (hn : n = xml mi) (hk : xchk mi pc (.iastore, len, a, b, cv, mm) = true) (h : xexec cal .iastore pc len a b cv lo st w xk0 xr0 = some z) : xG p l e R s m args below meth c Q D z0 w0 wE n mi pc lo st w z := by
  simp only [xchk, Bool.and_eq_true, decide_eq_true_eq, beq_iff_eq] at hk
  simp only [xexec] at h
  obtain ⟨⟨hd, -⟩, rfl⟩ := hk
  obtain ⟨x, st, rfl, hh⟩ := xpI_s h
  replace h := hh
  clear hh
  obtain ⟨i, st, rfl, hh⟩ := xpI_s h
  replace h := hh
  clear hh
  obtain ⟨r, st, rfl, hh⟩ := xpA_s h
  replace h := hh
  clear hh
  obtain ⟨o, rfl, hh⟩ := xbi_s h
  replace h := hh
  clear hh
  obtain ⟨w2, hx, h⟩ := xbi_s h
  obtain rfl := xk0_s h
  exact ⟨xle_sI hx, fun _ _ _ K => xh_ast hC hd hx K⟩
theorem xz_bastore (hC : xCx p R s m meth c D z0 w0 mi) (hn : n = xml mi) (hk : xchk mi pc (.bastore, len, a, b, cv, mm) = true) (h : xexec cal .bastore pc len a b cv lo st w xk0 xr0 = some z) : xG p l e R s m args below meth c Q D z0 w0 wE n mi pc lo st w z := by
  simp only [xchk, Bool.and_eq_true, decide_eq_true_eq, beq_iff_eq] at hk
  simp only [xexec] at h
  obtain ⟨⟨hd, -⟩, rfl⟩ := hk
  obtain ⟨x, st, rfl, hh⟩ := xpI_s h
  replace h := hh
  clear hh
  obtain ⟨i, st, rfl, hh⟩ := xpI_s h
  replace h := hh
  clear hh
  obtain ⟨r, st, rfl, hh⟩ := xpA_s h
  replace h := hh
  clear hh
  obtain ⟨o, rfl, hh⟩ := xbi_s h
  replace h := hh
  clear hh
  obtain ⟨w2, hx, h⟩ := xbi_s h
  obtain rfl := xk0_s h
  exact ⟨xle_sZ hx, fun _ _ _ K => xh_zst hC hd hx K⟩
theorem xz_lastore (hC : xCx p R s m meth c D z0 w0 mi) (hn : n = xml mi) (hk : xchk mi pc (.lastore, len, a, b, cv, mm) = true) (h : xexec cal .lastore pc len a b cv lo st w xk0 xr0 = some z) : xG p l e R s m args below meth c Q D z0 w0 wE n mi pc lo st w z := by
  simp only [xchk, Bool.and_eq_true, decide_eq_true_eq, beq_iff_eq] at hk
  simp only [xexec] at h
  obtain ⟨⟨hd, -⟩, rfl⟩ := hk
  obtain ⟨x, st, rfl, hh⟩ := xpJ_s h
  replace h := hh
  clear hh
  obtain ⟨i, st, rfl, hh⟩ := xpI_s h
  replace h := hh
  clear hh
  obtain ⟨r, st, rfl, hh⟩ := xpA_s h
  replace h := hh
  clear hh
  obtain ⟨o, rfl, hh⟩ := xbi_s h
  replace h := hh
  clear hh
  obtain ⟨w2, hx, h⟩ := xbi_s h
  obtain rfl := xk0_s h
  exact ⟨xle_sJ hx, fun _ _ _ K => xh_jst hC hd hx K⟩
theorem xz_dastore (hC : xCx p R s m meth c D z0 w0 mi) (hn : n = xml mi) (hk : xchk mi pc (.dastore, len, a, b, cv, mm) = true) (h : xexec cal .dastore pc len a b cv lo st w xk0 xr0 = some z) : xG p l e R s m args below meth c Q D z0 w0 wE n mi pc lo st w z := by
  simp only [xchk, Bool.and_eq_true, decide_eq_true_eq, beq_iff_eq] at hk
  simp only [xexec] at h
  obtain ⟨⟨hd, -⟩, rfl⟩ := hk
  obtain ⟨x, st, rfl, hh⟩ := xpD_s h
  replace h := hh
  clear hh
  obtain ⟨i, st, rfl, hh⟩ := xpI_s h
  replace h := hh
  clear hh
  obtain ⟨r, st, rfl, hh⟩ := xpA_s h
  replace h := hh
  clear hh
  obtain ⟨o, rfl, hh⟩ := xbi_s h
  replace h := hh
  clear hh
  obtain ⟨w2, hx, h⟩ := xbi_s h
  obtain rfl := xk0_s h
  exact ⟨xle_sD hx, fun _ _ _ K => xh_dst hC hd hx K⟩
theorem xz_aastore (hC : xCx p R s m meth c D z0 w0 mi) (hn : n = xml mi) (hk : xchk mi pc (.aastore, len, a, b, cv, mm) = true) (h : xexec cal .aastore pc len a b cv lo st w xk0 xr0 = some z) : xG p l e R s m args below meth c Q D z0 w0 wE n mi pc lo st w z := by
  simp only [xchk, Bool.and_eq_true, decide_eq_true_eq, beq_iff_eq] at hk
  simp only [xexec] at h
  obtain ⟨⟨hd, -⟩, rfl⟩ := hk
  obtain ⟨v, st, rfl, hh⟩ := xpA_s h
  replace h := hh
  clear hh
  obtain ⟨i, st, rfl, hh⟩ := xpI_s h
  replace h := hh
  clear hh
  obtain ⟨r, st, rfl, hh⟩ := xpA_s h
  replace h := hh
  clear hh
  obtain ⟨o, rfl, hh⟩ := xbi_s h
  replace h := hh
  clear hh
  obtain ⟨x, rfl, hh⟩ := xbi_s h
  replace h := hh
  clear hh
  obtain ⟨w2, hx, h⟩ := xbi_s h
  obtain rfl := xk0_s h
  exact ⟨xle_sA hx, fun _ _ _ K => xh_rst hC hd hx K⟩
theorem xz_instanceof {q : Nat} (hC : xCx p R s m meth c D z0 w0 mi) (hn : n = xml mi) (hk : xchk mi pc ((.instanceof q), len, a, b, cv, mm) = true) (h : xexec cal (.instanceof q) pc len a b cv lo st w xk0 xr0 = some z) : xG p l e R s m args below meth c Q D z0 w0 wE n mi pc lo st w z := by
  simp only [xchk, Bool.and_eq_true, decide_eq_true_eq, beq_iff_eq] at hk
  simp only [xexec] at h
  obtain ⟨⟨hd, -⟩, ⟨⟨rfl, hin⟩, rfl⟩, rfl⟩ := hk
  obtain ⟨r, st, rfl, hh⟩ := xpA_s h
  replace h := hh
  clear hh
  split at h
  · next hr =>
    subst hr
    obtain rfl := xk0_s h
    exact ⟨xle_r _, fun _ _ _ K hn1 ls H locs cells slots hls hSt => lv_instN hC.1 hC.2.1 hd (K hn1 ls H locs cells slots hls hSt)⟩
  · obtain ⟨o, rfl, hh⟩ := xbi_s h
    replace h := hh
    clear hh
    obtain ⟨c, hc, h⟩ := xbi_s h
    obtain ⟨fs, ho⟩ := xcno_s hc
    split at h
    · next hc3 =>
      subst hc3
      obtain rfl := xk0_s h
      exact ⟨xle_r _, fun _ _ _ K => xh_isY hC hd hin ho K⟩
    · split at h
      · next hc5 =>
        subst hc5
        obtain rfl := xk0_s h
        exact ⟨xle_r _, fun _ _ _ K => xh_isN hC hd hin ho K⟩
      · cases h
theorem xz_checkcast {q : Nat} (hC : xCx p R s m meth c D z0 w0 mi) (hn : n = xml mi) (hk : xchk mi pc ((.checkcast q), len, a, b, cv, mm) = true) (h : xexec cal (.checkcast q) pc len a b cv lo st w xk0 xr0 = some z) : xG p l e R s m args below meth c Q D z0 w0 wE n mi pc lo st w z := by
  simp only [xchk, Bool.and_eq_true, decide_eq_true_eq, beq_iff_eq] at hk
  simp only [xexec] at h
  obtain ⟨⟨hd, -⟩, ⟨rfl, hin⟩, rfl⟩ := hk
  obtain ⟨r, st, rfl, hh⟩ := xpA_s h
  replace h := hh
  clear hh
  obtain ⟨o, rfl, hh⟩ := xbi_s h
  replace h := hh
  clear hh
  obtain ⟨fs, hx, h⟩ := xbi_s h
  obtain rfl := xk0_s h
  exact ⟨xle_r _, fun _ _ _ K => xh_cast hC hd hin (xobj_s hx) K⟩
theorem xct1 (x : Option Nat) : (xv (xA x)).category = 1 := by cases x <;> rfl
theorem xz_dup (hC : xCx p R s m meth c D z0 w0 mi) (hn : n = xml mi) (hk : xchk mi pc (.dup, len, a, b, cv, mm) = true) (h : xexec cal .dup pc len a b cv lo st w xk0 xr0 = some z) : xG p l e R s m args below meth c Q D z0 w0 wE n mi pc lo st w z := by
  simp only [xchk, Bool.and_eq_true, decide_eq_true_eq, beq_iff_eq] at hk
  simp only [xexec] at h
  obtain ⟨⟨hd, -⟩, rfl⟩ := hk
  obtain ⟨r, st, rfl, hh⟩ := xpA_s h
  replace h := hh
  clear hh
  obtain rfl := xk0_s h
  exact ⟨xle_r _, fun _ _ _ K hn1 ls H locs cells slots hls hSt => lv_dup hC.1 hC.2.1 hd (xct1 r) (K hn1 ls H locs cells slots hls hSt)⟩
theorem xz_dup2 (hC : xCx p R s m meth c D z0 w0 mi) (hn : n = xml mi) (hk : xchk mi pc (.dup2, len, a, b, cv, mm) = true) (h : xexec cal .dup2 pc len a b cv lo st w xk0 xr0 = some z) : xG p l e R s m args below meth c Q D z0 w0 wE n mi pc lo st w z := by
  simp only [xchk, Bool.and_eq_true, decide_eq_true_eq, beq_iff_eq] at hk
  simp only [xexec] at h
  obtain ⟨⟨hd, -⟩, rfl⟩ := hk
  obtain ⟨i, st, rfl, hh⟩ := xpI_s h
  replace h := hh
  clear hh
  obtain ⟨r, st, rfl, hh⟩ := xpA_s h
  replace h := hh
  clear hh
  obtain rfl := xk0_s h
  exact ⟨xle_r _, fun _ _ _ K hn1 ls H locs cells slots hls hSt => lv_dup2_11 hC.1 hC.2.1 hd rfl (xct1 r) (K hn1 ls H locs cells slots hls hSt)⟩
theorem xz_pop (hC : xCx p R s m meth c D z0 w0 mi) (hn : n = xml mi) (hk : xchk mi pc (.pop, len, a, b, cv, mm) = true) (h : xexec cal .pop pc len a b cv lo st w xk0 xr0 = some z) : xG p l e R s m args below meth c Q D z0 w0 wE n mi pc lo st w z := by
  simp only [xchk, Bool.and_eq_true, decide_eq_true_eq, beq_iff_eq] at hk
  simp only [xexec] at h
  obtain ⟨⟨hd, -⟩, rfl⟩ := hk
  obtain ⟨x, st, rfl, hh⟩ := xpI_s h
  replace h := hh
  clear hh
  obtain rfl := xk0_s h
  exact ⟨xle_r _, fun _ _ _ K hn1 ls H locs cells slots hls hSt => lv_pop hC.1 hC.2.1 hd rfl (K hn1 ls H locs cells slots hls hSt)⟩
theorem xtd2 {st : List xV} {b : Nat} : ((st.take b).reverse).reverse ++ st.drop b = st := by rw [List.reverse_reverse, List.take_append_drop]
theorem xtl {st : List xV} {b : Nat} (h : b ≤ st.length) : ((st.take b).reverse).length = b := by rw [List.length_reverse, List.length_take]; omega
theorem xz_invokestatic {q : Nat} (hC : xCx p R s m meth c D z0 w0 mi) (hn : n = xml mi) (hcal : ∀ (y : Nat) (as : List xV) (u : xW) (r : Option xV) (u2 : xW), cal y as u = some (r, u2) → xMt l D z0 y as u r u2) (hk : xchk mi pc ((.invokestatic q), len, a, b, cv, mm) = true) (h : xexec cal (.invokestatic q) pc len a b cv lo st w xk0 xr0 = some z) : xG p l e R s m args below meth c Q D z0 w0 wE n mi pc lo st w z := by
  simp only [xchk, Bool.and_eq_true, decide_eq_true_eq, beq_iff_eq] at hk
  simp only [xexec] at h
  obtain ⟨⟨hd, -⟩, ⟨⟨⟨rfl, hcok⟩, hst⟩, hb⟩, hlk⟩ := hk
  obtain ⟨hc, h⟩ := xco_s h
  simp only [Bool.and_eq_true, Nat.ble_eq] at hc
  obtain ⟨⟨r, w2⟩, hr, h⟩ := xbi_s h
  have h := xans_s h
  obtain rfl := xk0_s h
  have hM := hcal _ _ _ _ _ hr
  have hlk2 : xin3 xkm (xmi mi).1 q a = true ∨ ((xmi mi).1 = 3 ∧ q = 49 ∧ a = 72) ∨ ((xmi mi).1 = 3 ∧ q = 53 ∧ a = 71) := by
    simp only [Bool.or_eq_true, Bool.and_eq_true, beq_iff_eq] at hlk
    rcases hlk with (h1 | ⟨⟨h1, h2⟩, h3⟩) | ⟨⟨h1, h2⟩, h3⟩
    · exact Or.inl h1
    · exact Or.inr (Or.inl ⟨h1, h2, h3⟩)
    · exact Or.inr (Or.inr ⟨h1, h2, h3⟩)
  refine ⟨hM.1, fun h1 h2 h3 K => ?_⟩
  have := xh_calls (as := (st.take b).reverse) hC hd hcok hst (by rw [xtl hc.1]; exact hb) hlk2 hc.2 hM h1 h2 h3 K hn
  rw [xtd2] at this
  exact this
theorem xvirt8 {y : Nat} (h : xin1 xkv y = true) : (xmi y).1 < 8 := by
  obtain ⟨q, hq⟩ := xin1_s h
  have hall : ∀ q ∈ xkv, (xmi q.2).1 < 8 := by decide +kernel
  exact hall _ hq
theorem xz_invokevirtual {q : Nat} (hC : xCx p R s m meth c D z0 w0 mi) (hn : n = xml mi) (hcal : ∀ (y : Nat) (as : List xV) (u : xW) (r : Option xV) (u2 : xW), cal y as u = some (r, u2) → xMt l D z0 y as u r u2) (hk : xchk mi pc ((.invokevirtual q), len, a, b, cv, mm) = true) (h : xexec cal (.invokevirtual q) pc len a b cv lo st w xk0 xr0 = some z) : xG p l e R s m args below meth c Q D z0 w0 wE n mi pc lo st w z := by
  simp only [xchk, Bool.and_eq_true, decide_eq_true_eq, beq_iff_eq] at hk
  simp only [xexec] at h
  obtain ⟨⟨hd, -⟩, ⟨⟨⟨⟨⟨rfl, hlk⟩, hcok⟩, hin⟩, hse⟩, hb⟩, h16⟩ := hk
  rw [Nat.blt_eq] at h16
  obtain ⟨hc, h⟩ := xco_s h
  simp only [Bool.and_eq_true, Nat.ble_eq] at hc
  obtain ⟨r, as, has, h⟩ := xrc_s h
  obtain ⟨o, rfl, hh⟩ := xbi_s h
  replace h := hh
  clear hh
  obtain ⟨fs, hfs, h⟩ := xbi_s h
  obtain ⟨⟨r, w2⟩, hr, h⟩ := xbi_s h
  have h := xans_s h
  obtain rfl := xk0_s h
  rw [has] at hr
  have hM := hcal _ _ _ _ _ hr
  have hb16 : b % 16 = xnar a + 1 := by omega
  have hbd : b / 16 = (xmi a).1 := by omega
  have hlen : as.length = xnar a := by
    have := xtl hc.1
    rw [has, List.length_cons] at this
    omega
  rw [hbd] at hfs
  have ho := xobj_s hfs
  refine ⟨hM.1, fun h1 h2 h3 K => ?_⟩
  have h8 : (xmi a).1 < 8 := xvirt8 hse
  have := xh_callv (as := as) hC hd hcok hin hse hlen hlk h8 ho hc.2 hM h1 h2 h3 K hn
  rw [← has, xtd2] at this
  exact this
theorem xz_invokespecial {q : Nat} (hC : xCx p R s m meth c D z0 w0 mi) (hn : n = xml mi) (hcal : ∀ (y : Nat) (as : List xV) (u : xW) (r : Option xV) (u2 : xW), cal y as u = some (r, u2) → xMt l D z0 y as u r u2) (hk : xchk mi pc ((.invokespecial q), len, a, b, cv, mm) = true) (h : xexec cal (.invokespecial q) pc len a b cv lo st w xk0 xr0 = some z) : xG p l e R s m args below meth c Q D z0 w0 wE n mi pc lo st w z := by
  simp only [xchk, Bool.and_eq_true, decide_eq_true_eq, beq_iff_eq] at hk
  simp only [xexec] at h
  obtain ⟨⟨hd, -⟩, rfl, hk⟩ := hk
  cases ha : Nat.beq a 1000 with
  | true =>
    rw [ha] at h
    have ha2 : (a == 1000) = true := beq_iff_eq.mpr (Nat.eq_of_beq_eq_true ha)
    rw [ha2] at hk
    simp only [cond_true, Bool.and_eq_true, Nat.blt_eq] at hk h
    obtain ⟨r, st, rfl, hh⟩ := xpA_s h
    replace h := hh
    clear hh
    obtain ⟨hc, h⟩ := xco_s h
    obtain ⟨o, rfl, hh⟩ := xbi_s h
    replace h := hh
    clear hh
    obtain rfl := xk0_s h
    rw [Nat.ble_eq] at hc
    exact ⟨xle_r _, fun _ _ _ K => xh_obj hC hd hk.1 hk.2 hc hn K⟩
  | false =>
    rw [ha] at h
    have ha2 : (a == 1000) = false := beq_eq_false_iff_ne.mpr (Nat.ne_of_beq_eq_false ha)
    rw [ha2] at hk
    simp only [cond_false, Bool.and_eq_true, beq_iff_eq] at hk h
    obtain ⟨⟨⟨⟨⟨hlk, hcok⟩, hin⟩, hb⟩, hnm⟩, hre⟩ := hk
    obtain ⟨hc, h⟩ := xco_s h
    simp only [Bool.and_eq_true, Nat.ble_eq] at hc
    obtain ⟨r, as, has, h⟩ := xrc_s h
    obtain ⟨o, rfl, hh⟩ := xbi_s h
    replace h := hh
    clear hh
    obtain ⟨⟨r, w2⟩, hr, h⟩ := xbi_s h
    have h := xans_s h
    obtain rfl := xk0_s h
    rw [has] at hr
    have hM := hcal _ _ _ _ _ hr
    have hlen : as.length = xnar a := by
      have := xtl hc.1
      rw [has, List.length_cons] at this
      omega
    refine ⟨hM.1, fun h1 h2 h3 K => ?_⟩
    have := xh_calli (as := as) hC hd hcok hin hlen hlk hnm hre hc.2 hM h1 h2 h3 K hn
    rw [← has, xtd2] at this
    exact this
theorem xz_invokeinterface {q q2 : Nat} (hC : xCx p R s m meth c D z0 w0 mi) (hn : n = xml mi) (hcal : ∀ (y : Nat) (as : List xV) (u : xW) (r : Option xV) (u2 : xW), cal y as u = some (r, u2) → xMt l D z0 y as u r u2) (hk : xchk mi pc ((.invokeinterface q q2), len, a, b, cv, mm) = true) (h : xexec cal (.invokeinterface q q2) pc len a b cv lo st w xk0 xr0 = some z) : xG p l e R s m args below meth c Q D z0 w0 wE n mi pc lo st w z := by
  simp only [xchk, Bool.and_eq_true, decide_eq_true_eq, beq_iff_eq] at hk
  simp only [xexec] at h
  obtain ⟨⟨hd, -⟩, ⟨⟨⟨⟨⟨⟨⟨rfl, h6⟩, rfl⟩, rfl⟩, rfl⟩, hca⟩, hia⟩, hcb⟩, hib⟩ := hk
  obtain ⟨r, st, rfl, hh⟩ := xpA_s h
  replace h := hh
  clear hh
  obtain ⟨hc, h⟩ := xco_s h
  rw [Nat.ble_eq] at hc
  obtain ⟨o, rfl, hh⟩ := xbi_s h
  replace h := hh
  clear hh
  obtain ⟨cn, hcn, h⟩ := xbi_s h
  obtain ⟨fs, ho⟩ := xcno_s hcn
  obtain ⟨⟨r, w2⟩, hr, h⟩ := xbi_s h
  have h := xans_s h
  obtain rfl := xk0_s h
  split at hr
  · next h3 =>
    subst h3
    have hM := hcal _ _ _ _ _ hr
    exact ⟨hM.1, fun h1 h2 h3 K => xh_callf hC hd h6 hca hia (Or.inl ⟨rfl, rfl⟩) ho hc hM h1 h2 h3 K hn⟩
  · split at hr
    · next h5 =>
      subst h5
      have hM := hcal _ _ _ _ _ hr
      exact ⟨hM.1, fun h1 h2 h3 K => xh_callf hC hd h6 hcb hib (Or.inr ⟨rfl, rfl⟩) ho hc hM h1 h2 h3 K hn⟩
    · cases hr
end XZ
end
section
/-! methods -/
section XSOUND
variable {p : Program} {l : Launch} {e : Env} {R : Room} {s : State} {m : MethodId} {args : Array Value} {below : List Frame} {meth : Method} {c : Code} {Q : State → Prop} {D : va_G} {z0 : Nat} {w0 : xW} {mi n : Nat} {cal : Nat → List xV → xW → Option xR}
theorem xsound1 {w wE : xW} {pc len a b : Nat} {cv : Option xV} {mm : List Bool} {lo : xL} {st : List xV} {z : xNx} {i : Instr} (hC : xCx p R s m meth c D z0 w0 mi) (hn : n = xml mi) (hcal : ∀ (y : Nat) (as : List xV) (u : xW) (r : Option xV) (u2 : xW), cal y as u = some (r, u2) → xMt l D z0 y as u r u2) (hk : xchk mi pc (i, len, a, b, cv, mm) = true) (h : xexec cal i pc len a b cv lo st w xk0 xr0 = some z) : xG p l e R s m args below meth c Q D z0 w0 wE n mi pc lo st w z := by
  cases i with
  | iconst q => exact xz_iconst hC hn hk h
  | bipush q => exact xz_bipush hC hn hk h
  | sipush q => exact xz_sipush hC hn hk h
  | lconst q => exact xz_lconst hC hn hk h
  | fconst q => exact xz_fconst hC hn hk h
  | dconst q => exact xz_dconst hC hn hk h
  | ldc q => exact xz_ldc hC hn hk h
  | ldc2_w q => exact xz_ldc2_w hC hn hk h
  | aconst_null => exact xz_aconst_null hC hn hk h
  | iload q => exact xz_iload hC hn hk h
  | iload_n q => exact xz_iload_n hC hn hk h
  | lload q => exact xz_lload hC hn hk h
  | lload_n q => exact xz_lload_n hC hn hk h
  | fload q => exact xz_fload hC hn hk h
  | dload q => exact xz_dload hC hn hk h
  | dload_n q => exact xz_dload_n hC hn hk h
  | aload q => exact xz_aload hC hn hk h
  | aload_n q => exact xz_aload_n hC hn hk h
  | istore q => exact xz_istore hC hn hk h
  | istore_n q => exact xz_istore_n hC hn hk h
  | lstore q => exact xz_lstore hC hn hk h
  | lstore_n q => exact xz_lstore_n hC hn hk h
  | fstore q => exact xz_fstore hC hn hk h
  | dstore q => exact xz_dstore hC hn hk h
  | dstore_n q => exact xz_dstore_n hC hn hk h
  | astore q => exact xz_astore hC hn hk h
  | astore_n q => exact xz_astore_n hC hn hk h
  | iinc q q2 => exact xz_iinc hC hn hk h
  | iadd => exact xz_iadd hC hn hk h
  | isub => exact xz_isub hC hn hk h
  | imul => exact xz_imul hC hn hk h
  | iand => exact xz_iand hC hn hk h
  | ior => exact xz_ior hC hn hk h
  | ishl => exact xz_ishl hC hn hk h
  | ishr => exact xz_ishr hC hn hk h
  | ladd => exact xz_ladd hC hn hk h
  | lsub => exact xz_lsub hC hn hk h
  | land => exact xz_land hC hn hk h
  | lor => exact xz_lor hC hn hk h
  | lshl => exact xz_lshl hC hn hk h
  | idiv => exact xz_idiv hC hn hk h
  | irem => exact xz_irem hC hn hk h
  | lcmp => exact xz_lcmp hC hn hk h
  | fadd => exact xz_fadd hC hn hk h
  | fdiv => exact xz_fdiv hC hn hk h
  | dadd => exact xz_dadd hC hn hk h
  | dsub => exact xz_dsub hC hn hk h
  | dmul => exact xz_dmul hC hn hk h
  | ddiv => exact xz_ddiv hC hn hk h
  | dneg => exact xz_dneg hC hn hk h
  | dcmp q => exact xz_dcmp hC hn hk h
  | i2l => exact xz_i2l hC hn hk h
  | l2i => exact xz_l2i hC hn hk h
  | i2b => exact xz_i2b hC hn hk h
  | i2s => exact xz_i2s hC hn hk h
  | i2c => exact xz_i2c hC hn hk h
  | l2f => exact xz_l2f hC hn hk h
  | l2d => exact xz_l2d hC hn hk h
  | d2i => exact xz_d2i hC hn hk h
  | d2l => exact xz_d2l hC hn hk h
  | f2d => exact xz_f2d hC hn hk h
  | d2f => exact xz_d2f hC hn hk h
  | ifnonnull q => exact xz_ifnonnull hC hn hk h
  | goto q => exact xz_goto hC hn hk h
  | tableswitch q1 q2 q3 q4 => exact xz_tableswitch hC hn hk h
  | ireturn => exact xz_ireturn hC hn hk h
  | lreturn => exact xz_lreturn hC hn hk h
  | dreturn => exact xz_dreturn hC hn hk h
  | areturn => exact xz_areturn hC hn hk h
  | return_ => exact xz_return_ hC hn hk h
  | getfield q => exact xz_getfield hC hn hk h
  | putfield q => exact xz_putfield hC hn hk h
  | getstatic q => exact xz_getstatic hC hn hk h
  | new q => exact xz_new hC hn hk h
  | newarray q => exact xz_newarray hC hn hk h
  | anewarray q => exact xz_anewarray hC hn hk h
  | arraylength => exact xz_arraylength hC hn hk h
  | iaload => exact xz_iaload hC hn hk h
  | baload => exact xz_baload hC hn hk h
  | laload => exact xz_laload hC hn hk h
  | daload => exact xz_daload hC hn hk h
  | aaload => exact xz_aaload hC hn hk h
  | iastore => exact xz_iastore hC hn hk h
  | bastore => exact xz_bastore hC hn hk h
  | lastore => exact xz_lastore hC hn hk h
  | dastore => exact xz_dastore hC hn hk h
  | aastore => exact xz_aastore hC hn hk h
  | instanceof q => exact xz_instanceof hC hn hk h
  | checkcast q => exact xz_checkcast hC hn hk h
  | dup => exact xz_dup hC hn hk h
  | dup2 => exact xz_dup2 hC hn hk h
  | pop => exact xz_pop hC hn hk h
  | invokestatic q => exact xz_invokestatic hC hn hcal hk h
  | invokevirtual q => exact xz_invokevirtual hC hn hcal hk h
  | invokespecial q => exact xz_invokespecial hC hn hcal hk h
  | invokeinterface q q2 => exact xz_invokeinterface hC hn hcal hk h
  | ifCond q1 q2 =>
    cases q1 with
    | eq => exact xz_ifCond_eq hC hn hk h
    | ne => exact xz_ifCond_ne hC hn hk h
    | lt => exact xz_ifCond_lt hC hn hk h
    | ge => exact xz_ifCond_ge hC hn hk h
    | gt => exact xz_ifCond_gt hC hn hk h
    | le => exact xz_ifCond_le hC hn hk h
  | if_icmp q1 q2 =>
    cases q1 with
    | eq => exact xz_if_icmp_eq hC hn hk h
    | ne => exact xz_if_icmp_ne hC hn hk h
    | lt => exact xz_if_icmp_lt hC hn hk h
    | ge => exact xz_if_icmp_ge hC hn hk h
    | gt => exact xz_if_icmp_gt hC hn hk h
    | le => exact xz_if_icmp_le hC hn hk h
  | if_acmp q1 q2 =>
    cases q1 with
    | ne => exact xz_if_acmp_ne hC hn hk h
    | _ => simp only [xexec] at h; cases h
  | _ => simp only [xexec] at h; cases h
theorem xmk_len {mm : List Bool} {lo : xL} (h : mm = [] ∨ mm.length = lo.length) : (xmk mm lo).length = lo.length := by
  cases mm with
  | nil => rfl
  | cons q qs =>
    have h2 : (q :: qs).length = lo.length := h.resolve_left (by simp)
    show (List.zipWith _ (q :: qs) lo).length = _
    rw [List.length_zipWith, h2, Nat.min_self]
theorem xrun_sound (hC : xCx p R s m meth c D z0 w0 mi) (hn : n = xml mi) (hcal : ∀ (y : Nat) (as : List xV) (u : xW) (r : Option xV) (u2 : xW), cal y as u = some (r, u2) → xMt l D z0 y as u r u2) : ∀ (k pc : Nat) (lo : xL) (st : List xV) (w : xW) (r : Option xV) (wE : xW), xrun cal mi k pc lo st w = some (r, wE) →
    xle w wE ∧ (wE.1 ≤ w0.1 + R.cells → wE.2.1 ≤ w0.2.1 + R.slots → xKz p l e R s m args below meth c Q D z0 w0 n mi (.inr (r, wE)) → xWn p l e R s m args below meth c Q D z0 w0 n pc lo st w)
  | 0, pc, lo, st, w, r, wE, h => by cases h
  | k + 1, pc, lo, st, w, r, wE, h => by
    have h : xstp cal mi (xrun cal mi k) pc lo st w = some (r, wE) := h
    rw [xstp_eq] at h
    obtain ⟨z, hz, h⟩ := xbi_s h
    unfold xst0 at hz
    split at hz
    · cases hz
    · next i len a b cv mm hf =>
      have hk := xfetch_ok hf
      have hmm : mm = [] ∨ mm.length = xml mi := by
        unfold xchk at hk
        simp only [Bool.and_eq_true, Bool.or_eq_true, beq_iff_eq] at hk
        exact hk.1.2
      have key := xsound1 (p := p) (l := l) (e := e) (args := args) (below := below) (Q := Q) (wE := wE) hC hn hcal hk hz
      have conv : ∀ (K : xWn p l e R s m args below meth c Q D z0 w0 n pc (xmk mm lo) st w), xWn p l e R s m args below meth c Q D z0 w0 n pc lo st w := by
        intro K hl ls H locs cells slots hls hSt
        have hmm2 : mm = [] ∨ mm.length = lo.length := by rw [hl, hn]; exact hmm
        exact K (by rw [xmk_len hmm2]; exact hl) ls H locs cells slots (xLs_mk hls hmm2) hSt
      cases z with
      | inl q =>
        have h : xrun cal mi k q.1 q.2.1 q.2.2.1 q.2.2.2 = some (r, wE) := h
        obtain ⟨i1, i2⟩ := xrun_sound hC hn hcal k _ _ _ _ _ _ h
        exact ⟨xle_t key.1 i1, fun h1 h2 K => conv (key.2 i1 h1 h2 (i2 h1 h2 K))⟩
      | inr q =>
        have h : some (q.1, q.2) = some (r, wE) := h
        cases h
        exact ⟨key.1, fun h1 h2 K => conv (key.2 (xle_r _) h1 h2 K)⟩
end XSOUND
theorem xent2_len : ∀ (n : Nat) (lo : xL), (xent2 n lo).length = n
  | 0, _ => rfl
  | n + 1, [] => by rw [xent2, List.length_cons, xent2_len n []]
  | n + 1, _ :: r => by rw [xent2, List.length_cons, xent2_len n r]
theorem xent2_get : ∀ (n : Nat) (lo : xL) (i : Nat) (v : xV), (xent2 n lo)[i]? = some (some v) → lo[i]? = some (some v)
  | 0, _, i, v, h => by simp [xent2] at h
  | n + 1, [], i, v, h => by
    cases i with
    | zero => simp [xent2] at h
    | succ i =>
      have := xent2_get n [] i v (by simpa [xent2] using h)
      simp at this
  | n + 1, x :: r, i, v, h => by
    cases i with
    | zero => simpa [xent2] using h
    | succ i =>
      have := xent2_get n r i v (by simpa [xent2] using h)
      simpa using this
theorem xent1_mem : ∀ (as : List xV) (j i : Nat) (v : xV), (xent1 as)[i]? = some (some v) → (j + i, xv v) ∈ lv_args j (as.map xv)
  | [], j, i, v, h => by simp [xent1] at h
  | u :: r, j, i, v, h => by
    have one : ∀ (hu : xent1 (u :: r) = some u :: xent1 r) (hc : ¬ (xv u).category = 2), (j + i, xv v) ∈ lv_args j ((u :: r).map xv) := by
      intro hu hc
      rw [hu] at h
      rw [List.map_cons, lv_args, if_neg hc]
      cases i with
      | zero => cases h; exact List.mem_cons_self
      | succ i =>
        refine List.mem_cons_of_mem _ ?_
        have := xent1_mem r (j + 1) i v (by simpa using h)
        rw [show j + (i + 1) = j + 1 + i by omega]
        exact this
    have two : ∀ (hu : xent1 (u :: r) = some u :: none :: xent1 r) (hc : (xv u).category = 2), (j + i, xv v) ∈ lv_args j ((u :: r).map xv) := by
      intro hu hc
      rw [hu] at h
      rw [List.map_cons, lv_args, if_pos hc]
      match i, h with
      | 0, h => cases h; exact List.mem_cons_self
      | 1, h => cases h
      | i + 2, h =>
        refine List.mem_cons_of_mem _ ?_
        have := xent1_mem r (j + 2) i v (by simpa using h)
        rw [show j + (i + 2) = j + 2 + i by omega]
        exact this
    obtain x | x | x | x | x := u
    · exact one rfl (by simp [xv, Value.category])
    · exact two rfl rfl
    · exact one rfl (by simp [xv, Value.category])
    · exact two rfl rfl
    · exact one rfl (by rw [xct_cat]; simp [xct])
theorem xent1_len : ∀ as : List xV, (lg_sl (as.map xv)).length = (xent1 as).length
  | [] => rfl
  | u :: r => by
    have ih := xent1_len r
    have one : ∀ (hu : xent1 (u :: r) = some u :: xent1 r) (hc : ¬ (xv u).category = 2), (lg_sl ((u :: r).map xv)).length = (xent1 (u :: r)).length := by
      intro hu hc
      rw [hu, List.map_cons, lg_sl, List.flatMap_cons, if_neg hc, List.length_append, List.length_cons]
      unfold lg_sl at ih
      rw [ih]
      simp [Nat.add_comm]
    have two : ∀ (hu : xent1 (u :: r) = some u :: none :: xent1 r) (hc : (xv u).category = 2), (lg_sl ((u :: r).map xv)).length = (xent1 (u :: r)).length := by
      intro hu hc
      rw [hu, List.map_cons, lg_sl, List.flatMap_cons, if_pos hc, List.length_append, List.length_cons, List.length_cons]
      unfold lg_sl at ih
      rw [ih]
      simp only [List.length_cons, List.length_nil]
      omega
    obtain x | x | x | x | x := u
    · exact one rfl (by simp [xv, Value.category])
    · exact two rfl rfl
    · exact one rfl (by simp [xv, Value.category])
    · exact two rfl rfl
    · exact one rfl (by rw [xct_cat]; simp [xct])
theorem xentry {as : List xV} {n : Nat} (h : (xent1 as).length ≤ n) (m : MethodId) : ∃ ls, entryFrame m (as.map xv).toArray n = F0 m 0 ls [] ∧ xLs ls (xent2 n (xent1 as)) := by
  have hl := lv_entry (as.map xv) (n := n) (by rw [xent1_len]; exact h)
  refine ⟨_, lg_entry_eq m (as.map xv) n, ?_⟩
  refine ⟨by rw [hl.1, xent2_len], hl.2.1, fun i v hv => ?_⟩
  have h1 := xent1_mem as 0 i v (xent2_get _ _ _ _ hv)
  rw [Nat.zero_add] at h1
  exact hl.2.2 _ h1
theorem xmeth_ok : ∀ y, y < 149 → (xmi y).2.1.cls = xcs (xmi y).1 := by decide +kernel
theorem xplain (q : Nat) : plainName (xcs q) = true := by
  unfold xcs
  split <;> decide
theorem xcode_lt : ∀ q ∈ xcode, ∀ e ∈ q.2, e.1 < 149 := by
  have h : (xcode.all fun q => q.2.all fun e => Nat.blt e.1 149) = true := by decide +kernel
  intro q hq e he
  have h1 := List.all_eq_true.mp (List.all_eq_true.mp h q hq) e he
  exact Nat.blt_eq.mp h1
theorem xfetch_lt {y pc : Nat} {e : xEn} (h : xfetch y pc = some e) : y < 149 := by
  unfold xfetch at h
  split at h
  · next t ht =>
    obtain ⟨q, es, h1, h2⟩ := xf2_mem _ _ _ ht
    exact xcode_lt _ h1 _ h2
  · cases h
/-! sizes -/
section XLE
variable {C : Prop} {α : Type} {z : α}
theorem xcv_g {c : Option xV} {f : xV → Option α} (H : ∀ v, f v = some z → C) (h : xcv c f = some z) : C := by
  obtain ⟨v, -, h⟩ := xcv_s h
  exact H v h
theorem xpI_g {st : List xV} {f : Int32 → List xV → Option α} (H : ∀ x r, f x r = some z → C) (h : xpI st f = some z) : C := by
  obtain ⟨x, r, -, h⟩ := xpI_s h
  exact H x r h
theorem xpJ_g {st : List xV} {f : Int64 → List xV → Option α} (H : ∀ x r, f x r = some z → C) (h : xpJ st f = some z) : C := by
  obtain ⟨x, r, -, h⟩ := xpJ_s h
  exact H x r h
theorem xpF_g {st : List xV} {f : UInt32 → List xV → Option α} (H : ∀ x r, f x r = some z → C) (h : xpF st f = some z) : C := by
  obtain ⟨x, r, -, h⟩ := xpF_s h
  exact H x r h
theorem xpD_g {st : List xV} {f : UInt64 → List xV → Option α} (H : ∀ x r, f x r = some z → C) (h : xpD st f = some z) : C := by
  obtain ⟨x, r, -, h⟩ := xpD_s h
  exact H x r h
theorem xpA_g {st : List xV} {f : Option Nat → List xV → Option α} (H : ∀ x r, f x r = some z → C) (h : xpA st f = some z) : C := by
  obtain ⟨x, r, -, h⟩ := xpA_s h
  exact H x r h
theorem xnl_g {st : List xV} {f : Option α} (H : f = some z → C) (h : xnl st f = some z) : C := H (xnl_s h).2
theorem xlI_g {lo : xL} {i : Nat} {f : Int32 → Option α} (H : ∀ x, f x = some z → C) (h : xlI lo i f = some z) : C := by
  obtain ⟨x, -, h⟩ := xlI_s h
  exact H x h
theorem xlJ_g {lo : xL} {i : Nat} {f : Int64 → Option α} (H : ∀ x, f x = some z → C) (h : xlJ lo i f = some z) : C := by
  obtain ⟨x, -, h⟩ := xlJ_s h
  exact H x h
theorem xlF_g {lo : xL} {i : Nat} {f : UInt32 → Option α} (H : ∀ x, f x = some z → C) (h : xlF lo i f = some z) : C := by
  obtain ⟨x, -, h⟩ := xlF_s h
  exact H x h
theorem xlD_g {lo : xL} {i : Nat} {f : UInt64 → Option α} (H : ∀ x, f x = some z → C) (h : xlD lo i f = some z) : C := by
  obtain ⟨x, -, h⟩ := xlD_s h
  exact H x h
theorem xlA_g {lo : xL} {i : Nat} {f : Option Nat → Option α} (H : ∀ x, f x = some z → C) (h : xlA lo i f = some z) : C := by
  obtain ⟨x, -, h⟩ := xlA_s h
  exact H x h
theorem xrI_g {r : Option xV} {f : Int32 → Option α} (H : ∀ x, f x = some z → C) (h : xrI r f = some z) : C := by
  obtain ⟨x, -, h⟩ := xrI_s h
  exact H x h
theorem xrc_g {as : List xV} {f : Option Nat → Option α} (H : ∀ x, f x = some z → C) (h : xrc as f = some z) : C := by
  obtain ⟨x, r, -, h⟩ := xrc_s h
  exact H x h
theorem xnF_g {x : UInt32} {f : UInt32 → Option α} (H : f x = some z → C) (h : xnF x f = some z) : C := H (xnF_s h).2
theorem xnD_g {x : UInt64} {f : UInt64 → Option α} (H : f x = some z → C) (h : xnD x f = some z) : C := H (xnD_s h).2
theorem xbi_g {β : Type} {o : Option β} {f : β → Option α} (H : ∀ x, o = some x → f x = some z → C) (h : o.bind f = some z) : C := by
  obtain ⟨x, hx, h⟩ := xbi_s h
  exact H x hx h
theorem xco_g {c : Bool} {f g : Option α} (H : f = some z → C) (H2 : g = some z → C) (h : (bif c then f else g) = some z) : C := by
  cases c with
  | true => exact H h
  | false => exact H2 h
theorem xif_g {c : Prop} [Decidable c] {f g : Option α} (H : f = some z → C) (H2 : g = some z → C) (h : (if c then f else g) = some z) : C := by
  split at h
  · exact H h
  · exact H2 h
theorem xno_g (h : (none : Option α) = some z) : C := by cases h
theorem xans_g {cv r : Option xV} {st : List xV} {f : List xV → Option α} (H : ∀ s, f s = some z → C) (h : xans cv r st f = some z) : C := H _ (xans_s h)
theorem xsw_g {x : Int32} {pc : Nat} {f : Nat → Option α} {os : List Int} {j : Int} {d : Nat} (H : ∀ t, f t = some z → C) (h : xsw x pc f j os d = some z) : C := by
  rcases xsw_s _ _ h with ⟨_, _, _, _, h⟩ | ⟨_, h⟩
  · exact H _ h
  · exact H _ h
end XLE
theorem xle_put {w w2 : xW} {o c k : Nat} {v : xV} (h : xput w o c k v = some w2) : xle w w2 := by
  obtain ⟨fs, -, -, rfl⟩ := xput_s h
  exact xle_set _ _ _
theorem xk0_le {p : Nat} {lo : xL} {st : List xV} {w w2 : xW} {z : xNx} (hw : xle w w2) (h : xk0 p lo st w2 = some z) : xle w (xwz z) := by
  rw [xk0_s h]
  exact hw
theorem xr0_le {r : Option xV} {w w2 : xW} {z : xNx} (hw : xle w w2) (h : xr0 r w2 = some z) : xle w (xwz z) := by
  rw [xr0_s h]
  exact hw
theorem xex_if {C : Prop} {c : Nat} {A B : Option xR} {q : xR} (h : (if c = 3 then A else if c = 5 then B else none) = some q) (h1 : A = some q → C) (h2 : B = some q → C) : C := by
  split at h
  · exact h1 h
  · split at h
    · exact h2 h
    · cases h
set_option maxHeartbeats 4000000 in
theorem xexec_le {cal : Nat → List xV → xW → Option xR} {w : xW} {pc len a b : Nat} {cv : Option xV} {lo : xL} {st : List xV} {z : xNx} (i : Instr) (hcal : ∀ (y : Nat) (as : List xV) (u : xW) (q : xR), cal y as u = some q → xle u q.2) : xexec cal i pc len a b cv lo st w xk0 xr0 = some z → xle w (xwz z) := by
  unfold xexec
  split
  all_goals repeat' (first
    | exact xk0_le (xle_r _)
    | exact xr0_le (xle_r _)
    | exact xk0_le (xle_push _ _ _)
    | exact xk0_le (xle_new (by assumption))
    | exact xk0_le (xle_put (by assumption))
    | exact xk0_le (xle_sI (by assumption))
    | exact xk0_le (xle_sZ (by assumption))
    | exact xk0_le (xle_sJ (by assumption))
    | exact xk0_le (xle_sD (by assumption))
    | exact xk0_le (xle_sA (by assumption))
    | exact xk0_le (hcal _ _ _ _ (by assumption))
    | exact xk0_le (xex_if (by assumption) (hcal _ _ _ _) (hcal _ _ _ _))
    | exact xno_g
    | refine xcv_g (fun _ => ?_)
    | refine xpI_g (fun _ _ => ?_)
    | refine xpJ_g (fun _ _ => ?_)
    | refine xpF_g (fun _ _ => ?_)
    | refine xpD_g (fun _ _ => ?_)
    | refine xpA_g (fun _ _ => ?_)
    | refine xnl_g ?_
    | refine xlI_g (fun _ => ?_)
    | refine xlJ_g (fun _ => ?_)
    | refine xlF_g (fun _ => ?_)
    | refine xlD_g (fun _ => ?_)
    | refine xlA_g (fun _ => ?_)
    | refine xrI_g (fun _ => ?_)
    | refine xrc_g (fun _ => ?_)
    | refine xnF_g ?_
    | refine xnD_g ?_
    | refine xans_g (fun _ => ?_)
    | refine xsw_g (fun _ => ?_)
    | refine xbi_g (fun _ _ => ?_)
    | refine xco_g ?_ ?_
    | refine xif_g ?_ ?_
    | split)
theorem xrun_le {cal : Nat → List xV → xW → Option xR} {mi : Nat} (hcal : ∀ (y : Nat) (as : List xV) (u : xW) (q : xR), cal y as u = some q → xle u q.2) : ∀ (k pc : Nat) (lo : xL) (st : List xV) (w : xW) (q : xR), xrun cal mi k pc lo st w = some q → xle w q.2
  | 0, pc, lo, st, w, q, h => by cases h
  | k + 1, pc, lo, st, w, q, h => by
    have h : xstp cal mi (xrun cal mi k) pc lo st w = some q := h
    rw [xstp_eq] at h
    obtain ⟨z, hz, h⟩ := xbi_s h
    unfold xst0 at hz
    split at hz
    · cases hz
    · have h1 := xexec_le _ hcal hz
      cases z with
      | inl u => exact xle_t h1 (xrun_le hcal k _ _ _ _ _ h)
      | inr u => cases h; exact h1
theorem xev_le : ∀ (k y : Nat), xrk y < k → ∀ (pc : Nat) (lo : xL) (st : List xV) (w : xW) (q : xR), xev y pc lo st w = some q → xle w q.2
  | 0, y, hk, pc, lo, st, w, q, h => absurd hk (Nat.not_lt_zero _)
  | k + 1, y, hk, pc, lo, st, w, q, h => by
    rw [xev_lm] at h
    obtain ⟨j, hj⟩ := (xlim_some (xrun_xm (xca xev y) y pc lo st w)).mp h
    refine xrun_le (fun y2 as u q hc => ?_) j pc lo st w q hj
    unfold xca at hc
    obtain ⟨hb, hc⟩ := xco_s hc
    simp only [Bool.and_eq_true, Nat.blt_eq, Nat.ble_eq] at hb
    exact xev_le k y2 (by omega) _ _ _ _ _ hc
/-- a method of the table that comes to an end has a contract that says so -/
theorem xmeth (l : Launch) (D : va_G) (z0 : Nat) : ∀ (k y : Nat), xrk y < k → ∀ (as : List xV) (w : xW) (r : Option xV) (w2 : xW), (xent1 as).length ≤ xml y → xev y 0 (xent2 (xml y) (xent1 as)) [] w = some (r, w2) → xMt l D z0 y as w r w2
  | 0, y, hk, as, w, r, w2, hlen, h => absurd hk (Nat.not_lt_zero _)
  | k + 1, y, hk, as, w, r, w2, hlen, h => by
    have hcal : ∀ (y2 : Nat) (as : List xV) (u : xW) (r : Option xV) (u2 : xW), xca xev y y2 as u = some (r, u2) → xMt l D z0 y2 as u r u2 := by
      intro y2 as u r u2 hc
      unfold xca at hc
      obtain ⟨hb, hc⟩ := xco_s hc
      simp only [Bool.and_eq_true, Nat.blt_eq, Nat.ble_eq] at hb
      exact xmeth l D z0 k y2 (by omega) as u r u2 hb.2 hc
    have hle : xle w w2 := xev_le (k + 1) y hk _ _ _ _ _ h
    have hlt : y < 149 := by
      rw [xev_eq] at h
      unfold xstp at h
      split at h
      · cases h
      · next hf => exact xfetch_lt hf
    have hcls := xmeth_ok y hlt
    rw [xev_lm] at h
    obtain ⟨j, hj⟩ := (xlim_some (xrun_xm (xca xev y) y 0 _ [] w)).mp h
    refine ⟨hle, ?_⟩
    refine Met.ofW (cc := (xmi y).2.2.1) (maxL := xml y) (ret := (xmi y).2.2.2) (by rw [hcls]; exact xplain _) rfl ?_
    intro p e s m args below meth c s₁ B hml hv
    obtain ⟨rfl, hT, hZ, hP⟩ := hv
    have hC : xCx p (headSpec (xwd y) (xrm y w w2)).room s m meth c D z0 w y := ⟨B.exec, B.bytes, hml, by rw [← hcls]; exact findClass_of_methodNamed B.named, fun h => (name_of_methodNamed B.named B.method).1.trans h, hT, Nat.le_refl _, Nat.le_refl _, hZ⟩
    have hr := B.returns
    have hlocks := B.notSynchronized
    obtain ⟨ls, hen, hls⟩ := xentry hlen m
    rw [hen]
    have h1 := hle.1
    have h2 := hle.2.1
    refine (xrun_sound hC rfl hcal j 0 _ [] w r w2 hj).2 ?_ ?_ ?_ (xent2_len _ _) ls s.heap [] 0 0 hls ⟨hP, va_S.rf, rfl, rfl, rfl⟩
    · show w2.1 ≤ w.1 + (w2.1 - w.1)
      omega
    · show w2.2.1 ≤ w.2.1 + (w2.2.1 - w.2.1)
      omega
    · intro pc ls H locs cells slots hSt hd hrt
      have c1 := hSt.2.2.1
      have c2 := hSt.2.2.2.1
      obtain rfl : cells = w2.1 - w.1 := by
        have c1 : w.1 + cells = w2.1 := c1
        omega
      obtain rfl : slots = w2.2.1 - w.2.1 := by
        have c2 : w.2.1 + slots = w2.2.1 := c2
        omega
      have hq : ∀ t : State, t.heap = H → s.WarmedH t.vm → xQc D z0 r w2 (as.map xv).toArray s (.returned (r.map xv)) t := fun t ht hW => ⟨⟨rfl, by rw [ht]; exact xP_moved hW.alike hSt.1⟩, hSt.2.1.F ht⟩
      have hf := hSt.2.1.2.2
      cases r with
      | none => exact W.vret B.exec B.bytes (hr.trans hrt) hq hf hd
      | some v =>
        obtain x | x | x | x | x := v
        · rcases hrt with hrt | ⟨hrt, hx⟩
          · exact W.iret B.exec B.bytes (hr.trans hrt) hq hf hd
          · exact W.zret B.exec B.bytes (hr.trans hrt) (by simp [narrow, hx]) hq hf hd
        · exact W.lret B.exec B.bytes (hr.trans hrt) hq hf hd
        · exact hrt.elim
        · exact W.dret B.exec B.bytes (hr.trans hrt) hq hf hd
        · obtain ⟨nm, hnm⟩ := hrt
          exact W.aret B.exec B.bytes (hr.trans hnm) (Or.inl ⟨nm, rfl⟩) (va_rf_or x) hq hf hd
end
section
/-! the reference's state: whole numbers, long ones, broken ones, and rows of each, by the numbers of the fields -/
abbrev mS : Type := (Nat → Int32) × (Nat → Int64) × (Nat → UInt64) × (Nat → Nat → Int32) × (Nat → Nat → Int64) × (Nat → Nat → UInt64)
abbrev mi (t : mS) : Nat → Int32 := t.1
abbrev mj (t : mS) : Nat → Int64 := t.2.1
abbrev md (t : mS) : Nat → UInt64 := t.2.2.1
abbrev mI (t : mS) : Nat → Nat → Int32 := t.2.2.2.1
abbrev mJ (t : mS) : Nat → Nat → Int64 := t.2.2.2.2.1
abbrev mD (t : mS) : Nat → Nat → UInt64 := t.2.2.2.2.2
def si (t : mS) (k : Nat) (x : Int32) : mS := (va_up t.1 k x, t.2)
def sj (t : mS) (k : Nat) (x : Int64) : mS := (t.1, va_up t.2.1 k x, t.2.2)
def sd (t : mS) (k : Nat) (x : UInt64) : mS := (t.1, t.2.1, va_up t.2.2.1 k x, t.2.2.2)
def sI (t : mS) (k n : Nat) (x : Int32) : mS := (t.1, t.2.1, t.2.2.1, va_up t.2.2.2.1 k (va_up (t.2.2.2.1 k) n x), t.2.2.2.2)
def sJ (t : mS) (k n : Nat) (x : Int64) : mS := (t.1, t.2.1, t.2.2.1, t.2.2.2.1, va_up t.2.2.2.2.1 k (va_up (t.2.2.2.2.1 k) n x), t.2.2.2.2.2)
def sD (t : mS) (k n : Nat) (x : UInt64) : mS := (t.1, t.2.1, t.2.2.1, t.2.2.2.1, t.2.2.2.2.1, va_up t.2.2.2.2.2 k (va_up (t.2.2.2.2.2 k) n x))
def mfs (m0 : Nat) (t : mS) : List xV := [xA (some (m0 + 1)), xA (some (m0 + 2)), xA (some (m0 + 3)), xA (some (m0 + 4)), xA (some (m0 + 5)), xA (some (m0 + 6)), xI (mi t 6), xI (mi t 7), xJ (mj t 8), xD (md t 9), xJ (mj t 10), xA (some (m0 + 7)), xA (some (m0 + 8)), xI (mi t 13), xA (some (m0 + 9)), xI (mi t 15), xA (some (m0 + 10)), xA (some (m0 + 11)), xI (mi t 18), xJ (mj t 19), xD (md t 20), xJ (mj t 21), xD (md t 22), xA (some (m0 + 12)), xA (some (m0 + 13)), xI (mi t 25), xA (some (m0 + 14)), xA (some (m0 + 15)), xA (some (m0 + 16)), xA (some (m0 + 17)), xA (some (m0 + 18)), xA (some (m0 + 19)), xA (some (m0 + 20)), xA (some (m0 + 21))]
def mce (m0 : Nat) (t : mS) (k : Nat) : Option xE := match k with
  | 0 => some (.inr (7, mfs m0 t))
  | 1 => some (.inl (0, 16, .inl (mI t 0)))
  | 2 => some (.inl (0, 16, .inl (mI t 1)))
  | 3 => some (.inl (0, 384, .inl (mI t 2)))
  | 4 => some (.inl (1, 384, .inr (.inl (mJ t 3))))
  | 5 => some (.inl (2, 384, .inr (.inr (.inr (.inl (mD t 4))))))
  | 6 => some (.inl (0, 10, .inl (mI t 5)))
  | 7 => some (.inl (0, 61, .inl (mI t 11)))
  | 8 => some (.inl (3, 61, .inl (mI t 12)))
  | 9 => some (.inl (0, 114, .inl (mI t 14)))
  | 10 => some (.inl (0, 24, .inl (mI t 16)))
  | 11 => some (.inl (0, 24, .inl (mI t 17)))
  | 12 => some (.inl (1, 48, .inr (.inl (mJ t 23))))
  | 13 => some (.inl (2, 48, .inr (.inr (.inr (.inl (mD t 24))))))
  | 14 => some (.inl (3, 2, .inl (mI t 26)))
  | 15 => some (.inl (0, 20, .inl (mI t 27)))
  | 16 => some (.inl (0, 20, .inl (mI t 28)))
  | 17 => some (.inl (0, 20, .inl (mI t 29)))
  | 18 => some (.inl (0, 20, .inl (mI t 30)))
  | 19 => some (.inl (0, 480, .inl (mI t 31)))
  | 20 => some (.inl (1, 480, .inr (.inl (mJ t 32))))
  | 21 => some (.inl (2, 480, .inr (.inr (.inr (.inl (mD t 33))))))
  | _ => none
def mW (m0 : Nat) (t : mS) (u : xW) : xW := (u.1, u.2.1, u.2.2.1, fun a => if m0 ≤ a ∧ a < m0 + 22 then mce m0 t (a - m0) else u.2.2.2 a)
section MOD
variable {m0 : Nat} {t : mS} {u : xW}
theorem mW_at {k : Nat} (h : k < 22) : (mW m0 t u).2.2.2 (m0 + k) = mce m0 t k := by
  show (if m0 ≤ m0 + k ∧ m0 + k < m0 + 22 then mce m0 t (m0 + k - m0) else u.2.2.2 (m0 + k)) = _
  rw [if_pos ⟨by omega, by omega⟩, Nat.add_sub_cancel_left]
theorem mW_out {a : Nat} (h : a < m0 ∨ m0 + 22 ≤ a) : (mW m0 t u).2.2.2 a = u.2.2.2 a := by
  show (if m0 ≤ a ∧ a < m0 + 22 then mce m0 t (a - m0) else u.2.2.2 a) = _
  rw [if_neg (by omega)]
theorem mW_ob : (mW m0 t u).2.2.2 m0 = some (.inr (7, mfs m0 t)) := mW_at (k := 0) (by decide)
theorem mW_obj : xobj (mW m0 t u) m0 7 = some (mfs m0 t) := by
  unfold xobj
  rw [mW_ob]
  rfl
/-- a cell of the state is set -/
theorem mW_set {k : Nat} {t2 : mS} {e : xE} (hk : k < 22) (he : mce m0 t2 k = some e) (ho : ∀ j, j ≠ k → mce m0 t2 j = mce m0 t j) : xset (mW m0 t u) (m0 + k) e = mW m0 t2 u := by
  unfold xset mW xup
  refine congrArg _ (congrArg _ (congrArg _ ?_))
  funext a
  by_cases ha : a = m0 + k
  · subst ha
    rw [if_pos rfl, if_pos ⟨by omega, by omega⟩, Nat.add_sub_cancel_left, he]
  · rw [if_neg ha]
    by_cases hr : m0 ≤ a ∧ a < m0 + 22
    · show (if m0 ≤ a ∧ a < m0 + 22 then mce m0 t (a - m0) else u.2.2.2 a) = _
      rw [if_pos hr, if_pos hr, ho (a - m0) (by omega)]
    · show (if m0 ≤ a ∧ a < m0 + 22 then mce m0 t (a - m0) else u.2.2.2 a) = _
      rw [if_neg hr, if_neg hr]
/-! fields are read and set -/
theorem g_0 : xgA (mW m0 t u) m0 7 0 = some (some (m0 + 1)) := by unfold xgA; rw [mW_obj]; rfl
theorem g_1 : xgA (mW m0 t u) m0 7 1 = some (some (m0 + 2)) := by unfold xgA; rw [mW_obj]; rfl
theorem g_2 : xgA (mW m0 t u) m0 7 2 = some (some (m0 + 3)) := by unfold xgA; rw [mW_obj]; rfl
theorem g_3 : xgA (mW m0 t u) m0 7 3 = some (some (m0 + 4)) := by unfold xgA; rw [mW_obj]; rfl
theorem g_4 : xgA (mW m0 t u) m0 7 4 = some (some (m0 + 5)) := by unfold xgA; rw [mW_obj]; rfl
theorem g_5 : xgA (mW m0 t u) m0 7 5 = some (some (m0 + 6)) := by unfold xgA; rw [mW_obj]; rfl
theorem g_6 : xgI (mW m0 t u) m0 7 6 = some (mi t 6) := by unfold xgI; rw [mW_obj]; rfl
theorem p_6 {x : Int32} : xput (mW m0 t u) m0 7 6 (xI x) = some (mW m0 (si t 6 x) u) := by
  unfold xput; rw [mW_obj, Option.bind_some, if_pos (show 6 < (mfs m0 t).length from (by decide : 6 < 34))]; exact congrArg some (mW_set (k := 0) (by decide) rfl (fun q hq => by unfold mce; split <;> first | rfl | exact absurd rfl hq))
theorem g_7 : xgI (mW m0 t u) m0 7 7 = some (mi t 7) := by unfold xgI; rw [mW_obj]; rfl
theorem p_7 {x : Int32} : xput (mW m0 t u) m0 7 7 (xI x) = some (mW m0 (si t 7 x) u) := by
  unfold xput; rw [mW_obj, Option.bind_some, if_pos (show 7 < (mfs m0 t).length from (by decide : 7 < 34))]; exact congrArg some (mW_set (k := 0) (by decide) rfl (fun q hq => by unfold mce; split <;> first | rfl | exact absurd rfl hq))
theorem g_8 : xgJ (mW m0 t u) m0 7 8 = some (mj t 8) := by unfold xgJ; rw [mW_obj]; rfl
theorem p_8 {x : Int64} : xput (mW m0 t u) m0 7 8 (xJ x) = some (mW m0 (sj t 8 x) u) := by
  unfold xput; rw [mW_obj, Option.bind_some, if_pos (show 8 < (mfs m0 t).length from (by decide : 8 < 34))]; exact congrArg some (mW_set (k := 0) (by decide) rfl (fun q hq => by unfold mce; split <;> first | rfl | exact absurd rfl hq))
theorem g_9 : xgD (mW m0 t u) m0 7 9 = some (md t 9) := by unfold xgD; rw [mW_obj]; rfl
theorem p_9 {x : UInt64} : xput (mW m0 t u) m0 7 9 (xD x) = some (mW m0 (sd t 9 x) u) := by
  unfold xput; rw [mW_obj, Option.bind_some, if_pos (show 9 < (mfs m0 t).length from (by decide : 9 < 34))]; exact congrArg some (mW_set (k := 0) (by decide) rfl (fun q hq => by unfold mce; split <;> first | rfl | exact absurd rfl hq))
theorem g_10 : xgJ (mW m0 t u) m0 7 10 = some (mj t 10) := by unfold xgJ; rw [mW_obj]; rfl
theorem p_10 {x : Int64} : xput (mW m0 t u) m0 7 10 (xJ x) = some (mW m0 (sj t 10 x) u) := by
  unfold xput; rw [mW_obj, Option.bind_some, if_pos (show 10 < (mfs m0 t).length from (by decide : 10 < 34))]; exact congrArg some (mW_set (k := 0) (by decide) rfl (fun q hq => by unfold mce; split <;> first | rfl | exact absurd rfl hq))
theorem g_11 : xgA (mW m0 t u) m0 7 11 = some (some (m0 + 7)) := by unfold xgA; rw [mW_obj]; rfl
theorem g_12 : xgA (mW m0 t u) m0 7 12 = some (some (m0 + 8)) := by unfold xgA; rw [mW_obj]; rfl
theorem g_13 : xgI (mW m0 t u) m0 7 13 = some (mi t 13) := by unfold xgI; rw [mW_obj]; rfl
theorem p_13 {x : Int32} : xput (mW m0 t u) m0 7 13 (xI x) = some (mW m0 (si t 13 x) u) := by
  unfold xput; rw [mW_obj, Option.bind_some, if_pos (show 13 < (mfs m0 t).length from (by decide : 13 < 34))]; exact congrArg some (mW_set (k := 0) (by decide) rfl (fun q hq => by unfold mce; split <;> first | rfl | exact absurd rfl hq))
theorem g_14 : xgA (mW m0 t u) m0 7 14 = some (some (m0 + 9)) := by unfold xgA; rw [mW_obj]; rfl
theorem g_15 : xgI (mW m0 t u) m0 7 15 = some (mi t 15) := by unfold xgI; rw [mW_obj]; rfl
theorem p_15 {x : Int32} : xput (mW m0 t u) m0 7 15 (xI x) = some (mW m0 (si t 15 x) u) := by
  unfold xput; rw [mW_obj, Option.bind_some, if_pos (show 15 < (mfs m0 t).length from (by decide : 15 < 34))]; exact congrArg some (mW_set (k := 0) (by decide) rfl (fun q hq => by unfold mce; split <;> first | rfl | exact absurd rfl hq))
theorem g_16 : xgA (mW m0 t u) m0 7 16 = some (some (m0 + 10)) := by unfold xgA; rw [mW_obj]; rfl
theorem g_17 : xgA (mW m0 t u) m0 7 17 = some (some (m0 + 11)) := by unfold xgA; rw [mW_obj]; rfl
theorem g_18 : xgI (mW m0 t u) m0 7 18 = some (mi t 18) := by unfold xgI; rw [mW_obj]; rfl
theorem p_18 {x : Int32} : xput (mW m0 t u) m0 7 18 (xI x) = some (mW m0 (si t 18 x) u) := by
  unfold xput; rw [mW_obj, Option.bind_some, if_pos (show 18 < (mfs m0 t).length from (by decide : 18 < 34))]; exact congrArg some (mW_set (k := 0) (by decide) rfl (fun q hq => by unfold mce; split <;> first | rfl | exact absurd rfl hq))
theorem g_19 : xgJ (mW m0 t u) m0 7 19 = some (mj t 19) := by unfold xgJ; rw [mW_obj]; rfl
theorem p_19 {x : Int64} : xput (mW m0 t u) m0 7 19 (xJ x) = some (mW m0 (sj t 19 x) u) := by
  unfold xput; rw [mW_obj, Option.bind_some, if_pos (show 19 < (mfs m0 t).length from (by decide : 19 < 34))]; exact congrArg some (mW_set (k := 0) (by decide) rfl (fun q hq => by unfold mce; split <;> first | rfl | exact absurd rfl hq))
theorem g_20 : xgD (mW m0 t u) m0 7 20 = some (md t 20) := by unfold xgD; rw [mW_obj]; rfl
theorem p_20 {x : UInt64} : xput (mW m0 t u) m0 7 20 (xD x) = some (mW m0 (sd t 20 x) u) := by
  unfold xput; rw [mW_obj, Option.bind_some, if_pos (show 20 < (mfs m0 t).length from (by decide : 20 < 34))]; exact congrArg some (mW_set (k := 0) (by decide) rfl (fun q hq => by unfold mce; split <;> first | rfl | exact absurd rfl hq))
theorem g_21 : xgJ (mW m0 t u) m0 7 21 = some (mj t 21) := by unfold xgJ; rw [mW_obj]; rfl
theorem p_21 {x : Int64} : xput (mW m0 t u) m0 7 21 (xJ x) = some (mW m0 (sj t 21 x) u) := by
  unfold xput; rw [mW_obj, Option.bind_some, if_pos (show 21 < (mfs m0 t).length from (by decide : 21 < 34))]; exact congrArg some (mW_set (k := 0) (by decide) rfl (fun q hq => by unfold mce; split <;> first | rfl | exact absurd rfl hq))
theorem g_22 : xgD (mW m0 t u) m0 7 22 = some (md t 22) := by unfold xgD; rw [mW_obj]; rfl
theorem p_22 {x : UInt64} : xput (mW m0 t u) m0 7 22 (xD x) = some (mW m0 (sd t 22 x) u) := by
  unfold xput; rw [mW_obj, Option.bind_some, if_pos (show 22 < (mfs m0 t).length from (by decide : 22 < 34))]; exact congrArg some (mW_set (k := 0) (by decide) rfl (fun q hq => by unfold mce; split <;> first | rfl | exact absurd rfl hq))
theorem g_23 : xgA (mW m0 t u) m0 7 23 = some (some (m0 + 12)) := by unfold xgA; rw [mW_obj]; rfl
theorem g_24 : xgA (mW m0 t u) m0 7 24 = some (some (m0 + 13)) := by unfold xgA; rw [mW_obj]; rfl
theorem g_25 : xgI (mW m0 t u) m0 7 25 = some (mi t 25) := by unfold xgI; rw [mW_obj]; rfl
theorem p_25 {x : Int32} : xput (mW m0 t u) m0 7 25 (xI x) = some (mW m0 (si t 25 x) u) := by
  unfold xput; rw [mW_obj, Option.bind_some, if_pos (show 25 < (mfs m0 t).length from (by decide : 25 < 34))]; exact congrArg some (mW_set (k := 0) (by decide) rfl (fun q hq => by unfold mce; split <;> first | rfl | exact absurd rfl hq))
theorem g_26 : xgA (mW m0 t u) m0 7 26 = some (some (m0 + 14)) := by unfold xgA; rw [mW_obj]; rfl
theorem g_27 : xgA (mW m0 t u) m0 7 27 = some (some (m0 + 15)) := by unfold xgA; rw [mW_obj]; rfl
theorem g_28 : xgA (mW m0 t u) m0 7 28 = some (some (m0 + 16)) := by unfold xgA; rw [mW_obj]; rfl
theorem g_29 : xgA (mW m0 t u) m0 7 29 = some (some (m0 + 17)) := by unfold xgA; rw [mW_obj]; rfl
theorem g_30 : xgA (mW m0 t u) m0 7 30 = some (some (m0 + 18)) := by unfold xgA; rw [mW_obj]; rfl
theorem g_31 : xgA (mW m0 t u) m0 7 31 = some (some (m0 + 19)) := by unfold xgA; rw [mW_obj]; rfl
theorem g_32 : xgA (mW m0 t u) m0 7 32 = some (some (m0 + 20)) := by unfold xgA; rw [mW_obj]; rfl
theorem g_33 : xgA (mW m0 t u) m0 7 33 = some (some (m0 + 21)) := by unfold xgA; rw [mW_obj]; rfl
theorem nI_rg {n N : Nat} (h : n < N) (hN : N < 1000) : ¬ nI n < 0 ∧ (nI n).toNatClampNeg = n := ⟨nI_pos (by omega), nI_clamp (by omega)⟩
theorem a_0 {n : Nat} (h : n < 16) : xaI (mW m0 t u) (m0 + 1) (nI n) = some (mI t 0 n) := by
  obtain ⟨h0, h1⟩ := nI_rg h (by decide)
  unfold xaI; rw [mW_at (by decide)]; show (if _ then _ else _) = _; rw [if_pos ⟨Or.inl rfl, h0, by rw [h1]; exact h⟩, h1]
theorem s_0 {n : Nat} {x : Int32} (h : n < 16) : xsI (mW m0 t u) (m0 + 1) (nI n) x = some (mW m0 (sI t 0 n (x)) u) := by
  obtain ⟨h0, h1⟩ := nI_rg h (by decide)
  unfold xsI; rw [mW_at (by decide)]; show (if _ then _ else _) = _; rw [if_pos ⟨rfl, h0, by rw [h1]; exact h⟩, h1]; refine congrArg some (mW_set (by decide) rfl (fun q hq => ?_))
  unfold mce; split <;> first | rfl | exact absurd rfl hq
theorem a_1 {n : Nat} (h : n < 16) : xaI (mW m0 t u) (m0 + 2) (nI n) = some (mI t 1 n) := by
  obtain ⟨h0, h1⟩ := nI_rg h (by decide)
  unfold xaI; rw [mW_at (by decide)]; show (if _ then _ else _) = _; rw [if_pos ⟨Or.inl rfl, h0, by rw [h1]; exact h⟩, h1]
theorem s_1 {n : Nat} {x : Int32} (h : n < 16) : xsI (mW m0 t u) (m0 + 2) (nI n) x = some (mW m0 (sI t 1 n (x)) u) := by
  obtain ⟨h0, h1⟩ := nI_rg h (by decide)
  unfold xsI; rw [mW_at (by decide)]; show (if _ then _ else _) = _; rw [if_pos ⟨rfl, h0, by rw [h1]; exact h⟩, h1]; refine congrArg some (mW_set (by decide) rfl (fun q hq => ?_))
  unfold mce; split <;> first | rfl | exact absurd rfl hq
theorem a_2 {n : Nat} (h : n < 384) : xaI (mW m0 t u) (m0 + 3) (nI n) = some (mI t 2 n) := by
  obtain ⟨h0, h1⟩ := nI_rg h (by decide)
  unfold xaI; rw [mW_at (by decide)]; show (if _ then _ else _) = _; rw [if_pos ⟨Or.inl rfl, h0, by rw [h1]; exact h⟩, h1]
theorem s_2 {n : Nat} {x : Int32} (h : n < 384) : xsI (mW m0 t u) (m0 + 3) (nI n) x = some (mW m0 (sI t 2 n (x)) u) := by
  obtain ⟨h0, h1⟩ := nI_rg h (by decide)
  unfold xsI; rw [mW_at (by decide)]; show (if _ then _ else _) = _; rw [if_pos ⟨rfl, h0, by rw [h1]; exact h⟩, h1]; refine congrArg some (mW_set (by decide) rfl (fun q hq => ?_))
  unfold mce; split <;> first | rfl | exact absurd rfl hq
theorem a_3 {n : Nat} (h : n < 384) : xaJ (mW m0 t u) (m0 + 4) (nI n) = some (mJ t 3 n) := by
  obtain ⟨h0, h1⟩ := nI_rg h (by decide)
  unfold xaJ; rw [mW_at (by decide)]; show (if _ then _ else _) = _; rw [if_pos ⟨rfl, h0, by rw [h1]; exact h⟩, h1]
theorem s_3 {n : Nat} {x : Int64} (h : n < 384) : xsJ (mW m0 t u) (m0 + 4) (nI n) x = some (mW m0 (sJ t 3 n (x)) u) := by
  obtain ⟨h0, h1⟩ := nI_rg h (by decide)
  unfold xsJ; rw [mW_at (by decide)]; show (if _ then _ else _) = _; rw [if_pos ⟨rfl, h0, by rw [h1]; exact h⟩, h1]; refine congrArg some (mW_set (by decide) rfl (fun q hq => ?_))
  unfold mce; split <;> first | rfl | exact absurd rfl hq
theorem a_4 {n : Nat} (h : n < 384) : xaD (mW m0 t u) (m0 + 5) (nI n) = some (mD t 4 n) := by
  obtain ⟨h0, h1⟩ := nI_rg h (by decide)
  unfold xaD; rw [mW_at (by decide)]; show (if _ then _ else _) = _; rw [if_pos ⟨rfl, h0, by rw [h1]; exact h⟩, h1]
theorem s_4 {n : Nat} {x : UInt64} (h : n < 384) : xsD (mW m0 t u) (m0 + 5) (nI n) x = some (mW m0 (sD t 4 n (x)) u) := by
  obtain ⟨h0, h1⟩ := nI_rg h (by decide)
  unfold xsD; rw [mW_at (by decide)]; show (if _ then _ else _) = _; rw [if_pos ⟨rfl, h0, by rw [h1]; exact h⟩, h1]; refine congrArg some (mW_set (by decide) rfl (fun q hq => ?_))
  unfold mce; split <;> first | rfl | exact absurd rfl hq
theorem a_5 {n : Nat} (h : n < 10) : xaI (mW m0 t u) (m0 + 6) (nI n) = some (mI t 5 n) := by
  obtain ⟨h0, h1⟩ := nI_rg h (by decide)
  unfold xaI; rw [mW_at (by decide)]; show (if _ then _ else _) = _; rw [if_pos ⟨Or.inl rfl, h0, by rw [h1]; exact h⟩, h1]
theorem s_5 {n : Nat} {x : Int32} (h : n < 10) : xsI (mW m0 t u) (m0 + 6) (nI n) x = some (mW m0 (sI t 5 n (x)) u) := by
  obtain ⟨h0, h1⟩ := nI_rg h (by decide)
  unfold xsI; rw [mW_at (by decide)]; show (if _ then _ else _) = _; rw [if_pos ⟨rfl, h0, by rw [h1]; exact h⟩, h1]; refine congrArg some (mW_set (by decide) rfl (fun q hq => ?_))
  unfold mce; split <;> first | rfl | exact absurd rfl hq
theorem a_11 {n : Nat} (h : n < 61) : xaI (mW m0 t u) (m0 + 7) (nI n) = some (mI t 11 n) := by
  obtain ⟨h0, h1⟩ := nI_rg h (by decide)
  unfold xaI; rw [mW_at (by decide)]; show (if _ then _ else _) = _; rw [if_pos ⟨Or.inl rfl, h0, by rw [h1]; exact h⟩, h1]
theorem s_11 {n : Nat} {x : Int32} (h : n < 61) : xsI (mW m0 t u) (m0 + 7) (nI n) x = some (mW m0 (sI t 11 n (x)) u) := by
  obtain ⟨h0, h1⟩ := nI_rg h (by decide)
  unfold xsI; rw [mW_at (by decide)]; show (if _ then _ else _) = _; rw [if_pos ⟨rfl, h0, by rw [h1]; exact h⟩, h1]; refine congrArg some (mW_set (by decide) rfl (fun q hq => ?_))
  unfold mce; split <;> first | rfl | exact absurd rfl hq
theorem a_12 {n : Nat} (h : n < 61) : xaZ (mW m0 t u) (m0 + 8) (nI n) = some (mI t 12 n) := by
  obtain ⟨h0, h1⟩ := nI_rg h (by decide)
  unfold xaZ; rw [mW_at (by decide)]; show (if _ then _ else _) = _; rw [if_pos ⟨rfl, h0, by rw [h1]; exact h⟩, h1]
theorem s_12 {n : Nat} {x : Int32} (h : n < 61) : xsZ (mW m0 t u) (m0 + 8) (nI n) x = some (mW m0 (sI t 12 n (vp_nar .boolean x)) u) := by
  obtain ⟨h0, h1⟩ := nI_rg h (by decide)
  unfold xsZ; rw [mW_at (by decide)]; show (if _ then _ else _) = _; rw [if_pos ⟨rfl, h0, by rw [h1]; exact h⟩, h1]; refine congrArg some (mW_set (by decide) rfl (fun q hq => ?_))
  unfold mce; split <;> first | rfl | exact absurd rfl hq
theorem a_14 {n : Nat} (h : n < 114) : xaI (mW m0 t u) (m0 + 9) (nI n) = some (mI t 14 n) := by
  obtain ⟨h0, h1⟩ := nI_rg h (by decide)
  unfold xaI; rw [mW_at (by decide)]; show (if _ then _ else _) = _; rw [if_pos ⟨Or.inl rfl, h0, by rw [h1]; exact h⟩, h1]
theorem s_14 {n : Nat} {x : Int32} (h : n < 114) : xsI (mW m0 t u) (m0 + 9) (nI n) x = some (mW m0 (sI t 14 n (x)) u) := by
  obtain ⟨h0, h1⟩ := nI_rg h (by decide)
  unfold xsI; rw [mW_at (by decide)]; show (if _ then _ else _) = _; rw [if_pos ⟨rfl, h0, by rw [h1]; exact h⟩, h1]; refine congrArg some (mW_set (by decide) rfl (fun q hq => ?_))
  unfold mce; split <;> first | rfl | exact absurd rfl hq
theorem a_16 {n : Nat} (h : n < 24) : xaI (mW m0 t u) (m0 + 10) (nI n) = some (mI t 16 n) := by
  obtain ⟨h0, h1⟩ := nI_rg h (by decide)
  unfold xaI; rw [mW_at (by decide)]; show (if _ then _ else _) = _; rw [if_pos ⟨Or.inl rfl, h0, by rw [h1]; exact h⟩, h1]
theorem s_16 {n : Nat} {x : Int32} (h : n < 24) : xsI (mW m0 t u) (m0 + 10) (nI n) x = some (mW m0 (sI t 16 n (x)) u) := by
  obtain ⟨h0, h1⟩ := nI_rg h (by decide)
  unfold xsI; rw [mW_at (by decide)]; show (if _ then _ else _) = _; rw [if_pos ⟨rfl, h0, by rw [h1]; exact h⟩, h1]; refine congrArg some (mW_set (by decide) rfl (fun q hq => ?_))
  unfold mce; split <;> first | rfl | exact absurd rfl hq
theorem a_17 {n : Nat} (h : n < 24) : xaI (mW m0 t u) (m0 + 11) (nI n) = some (mI t 17 n) := by
  obtain ⟨h0, h1⟩ := nI_rg h (by decide)
  unfold xaI; rw [mW_at (by decide)]; show (if _ then _ else _) = _; rw [if_pos ⟨Or.inl rfl, h0, by rw [h1]; exact h⟩, h1]
theorem s_17 {n : Nat} {x : Int32} (h : n < 24) : xsI (mW m0 t u) (m0 + 11) (nI n) x = some (mW m0 (sI t 17 n (x)) u) := by
  obtain ⟨h0, h1⟩ := nI_rg h (by decide)
  unfold xsI; rw [mW_at (by decide)]; show (if _ then _ else _) = _; rw [if_pos ⟨rfl, h0, by rw [h1]; exact h⟩, h1]; refine congrArg some (mW_set (by decide) rfl (fun q hq => ?_))
  unfold mce; split <;> first | rfl | exact absurd rfl hq
theorem a_23 {n : Nat} (h : n < 48) : xaJ (mW m0 t u) (m0 + 12) (nI n) = some (mJ t 23 n) := by
  obtain ⟨h0, h1⟩ := nI_rg h (by decide)
  unfold xaJ; rw [mW_at (by decide)]; show (if _ then _ else _) = _; rw [if_pos ⟨rfl, h0, by rw [h1]; exact h⟩, h1]
theorem s_23 {n : Nat} {x : Int64} (h : n < 48) : xsJ (mW m0 t u) (m0 + 12) (nI n) x = some (mW m0 (sJ t 23 n (x)) u) := by
  obtain ⟨h0, h1⟩ := nI_rg h (by decide)
  unfold xsJ; rw [mW_at (by decide)]; show (if _ then _ else _) = _; rw [if_pos ⟨rfl, h0, by rw [h1]; exact h⟩, h1]; refine congrArg some (mW_set (by decide) rfl (fun q hq => ?_))
  unfold mce; split <;> first | rfl | exact absurd rfl hq
theorem a_24 {n : Nat} (h : n < 48) : xaD (mW m0 t u) (m0 + 13) (nI n) = some (mD t 24 n) := by
  obtain ⟨h0, h1⟩ := nI_rg h (by decide)
  unfold xaD; rw [mW_at (by decide)]; show (if _ then _ else _) = _; rw [if_pos ⟨rfl, h0, by rw [h1]; exact h⟩, h1]
theorem s_24 {n : Nat} {x : UInt64} (h : n < 48) : xsD (mW m0 t u) (m0 + 13) (nI n) x = some (mW m0 (sD t 24 n (x)) u) := by
  obtain ⟨h0, h1⟩ := nI_rg h (by decide)
  unfold xsD; rw [mW_at (by decide)]; show (if _ then _ else _) = _; rw [if_pos ⟨rfl, h0, by rw [h1]; exact h⟩, h1]; refine congrArg some (mW_set (by decide) rfl (fun q hq => ?_))
  unfold mce; split <;> first | rfl | exact absurd rfl hq
theorem a_26 {n : Nat} (h : n < 2) : xaZ (mW m0 t u) (m0 + 14) (nI n) = some (mI t 26 n) := by
  obtain ⟨h0, h1⟩ := nI_rg h (by decide)
  unfold xaZ; rw [mW_at (by decide)]; show (if _ then _ else _) = _; rw [if_pos ⟨rfl, h0, by rw [h1]; exact h⟩, h1]
theorem s_26 {n : Nat} {x : Int32} (h : n < 2) : xsZ (mW m0 t u) (m0 + 14) (nI n) x = some (mW m0 (sI t 26 n (vp_nar .boolean x)) u) := by
  obtain ⟨h0, h1⟩ := nI_rg h (by decide)
  unfold xsZ; rw [mW_at (by decide)]; show (if _ then _ else _) = _; rw [if_pos ⟨rfl, h0, by rw [h1]; exact h⟩, h1]; refine congrArg some (mW_set (by decide) rfl (fun q hq => ?_))
  unfold mce; split <;> first | rfl | exact absurd rfl hq
theorem a_27 {n : Nat} (h : n < 20) : xaI (mW m0 t u) (m0 + 15) (nI n) = some (mI t 27 n) := by
  obtain ⟨h0, h1⟩ := nI_rg h (by decide)
  unfold xaI; rw [mW_at (by decide)]; show (if _ then _ else _) = _; rw [if_pos ⟨Or.inl rfl, h0, by rw [h1]; exact h⟩, h1]
theorem s_27 {n : Nat} {x : Int32} (h : n < 20) : xsI (mW m0 t u) (m0 + 15) (nI n) x = some (mW m0 (sI t 27 n (x)) u) := by
  obtain ⟨h0, h1⟩ := nI_rg h (by decide)
  unfold xsI; rw [mW_at (by decide)]; show (if _ then _ else _) = _; rw [if_pos ⟨rfl, h0, by rw [h1]; exact h⟩, h1]; refine congrArg some (mW_set (by decide) rfl (fun q hq => ?_))
  unfold mce; split <;> first | rfl | exact absurd rfl hq
theorem a_28 {n : Nat} (h : n < 20) : xaI (mW m0 t u) (m0 + 16) (nI n) = some (mI t 28 n) := by
  obtain ⟨h0, h1⟩ := nI_rg h (by decide)
  unfold xaI; rw [mW_at (by decide)]; show (if _ then _ else _) = _; rw [if_pos ⟨Or.inl rfl, h0, by rw [h1]; exact h⟩, h1]
theorem s_28 {n : Nat} {x : Int32} (h : n < 20) : xsI (mW m0 t u) (m0 + 16) (nI n) x = some (mW m0 (sI t 28 n (x)) u) := by
  obtain ⟨h0, h1⟩ := nI_rg h (by decide)
  unfold xsI; rw [mW_at (by decide)]; show (if _ then _ else _) = _; rw [if_pos ⟨rfl, h0, by rw [h1]; exact h⟩, h1]; refine congrArg some (mW_set (by decide) rfl (fun q hq => ?_))
  unfold mce; split <;> first | rfl | exact absurd rfl hq
theorem a_29 {n : Nat} (h : n < 20) : xaI (mW m0 t u) (m0 + 17) (nI n) = some (mI t 29 n) := by
  obtain ⟨h0, h1⟩ := nI_rg h (by decide)
  unfold xaI; rw [mW_at (by decide)]; show (if _ then _ else _) = _; rw [if_pos ⟨Or.inl rfl, h0, by rw [h1]; exact h⟩, h1]
theorem s_29 {n : Nat} {x : Int32} (h : n < 20) : xsI (mW m0 t u) (m0 + 17) (nI n) x = some (mW m0 (sI t 29 n (x)) u) := by
  obtain ⟨h0, h1⟩ := nI_rg h (by decide)
  unfold xsI; rw [mW_at (by decide)]; show (if _ then _ else _) = _; rw [if_pos ⟨rfl, h0, by rw [h1]; exact h⟩, h1]; refine congrArg some (mW_set (by decide) rfl (fun q hq => ?_))
  unfold mce; split <;> first | rfl | exact absurd rfl hq
theorem a_30 {n : Nat} (h : n < 20) : xaI (mW m0 t u) (m0 + 18) (nI n) = some (mI t 30 n) := by
  obtain ⟨h0, h1⟩ := nI_rg h (by decide)
  unfold xaI; rw [mW_at (by decide)]; show (if _ then _ else _) = _; rw [if_pos ⟨Or.inl rfl, h0, by rw [h1]; exact h⟩, h1]
theorem s_30 {n : Nat} {x : Int32} (h : n < 20) : xsI (mW m0 t u) (m0 + 18) (nI n) x = some (mW m0 (sI t 30 n (x)) u) := by
  obtain ⟨h0, h1⟩ := nI_rg h (by decide)
  unfold xsI; rw [mW_at (by decide)]; show (if _ then _ else _) = _; rw [if_pos ⟨rfl, h0, by rw [h1]; exact h⟩, h1]; refine congrArg some (mW_set (by decide) rfl (fun q hq => ?_))
  unfold mce; split <;> first | rfl | exact absurd rfl hq
theorem a_31 {n : Nat} (h : n < 480) : xaI (mW m0 t u) (m0 + 19) (nI n) = some (mI t 31 n) := by
  obtain ⟨h0, h1⟩ := nI_rg h (by decide)
  unfold xaI; rw [mW_at (by decide)]; show (if _ then _ else _) = _; rw [if_pos ⟨Or.inl rfl, h0, by rw [h1]; exact h⟩, h1]
theorem s_31 {n : Nat} {x : Int32} (h : n < 480) : xsI (mW m0 t u) (m0 + 19) (nI n) x = some (mW m0 (sI t 31 n (x)) u) := by
  obtain ⟨h0, h1⟩ := nI_rg h (by decide)
  unfold xsI; rw [mW_at (by decide)]; show (if _ then _ else _) = _; rw [if_pos ⟨rfl, h0, by rw [h1]; exact h⟩, h1]; refine congrArg some (mW_set (by decide) rfl (fun q hq => ?_))
  unfold mce; split <;> first | rfl | exact absurd rfl hq
theorem a_32 {n : Nat} (h : n < 480) : xaJ (mW m0 t u) (m0 + 20) (nI n) = some (mJ t 32 n) := by
  obtain ⟨h0, h1⟩ := nI_rg h (by decide)
  unfold xaJ; rw [mW_at (by decide)]; show (if _ then _ else _) = _; rw [if_pos ⟨rfl, h0, by rw [h1]; exact h⟩, h1]
theorem s_32 {n : Nat} {x : Int64} (h : n < 480) : xsJ (mW m0 t u) (m0 + 20) (nI n) x = some (mW m0 (sJ t 32 n (x)) u) := by
  obtain ⟨h0, h1⟩ := nI_rg h (by decide)
  unfold xsJ; rw [mW_at (by decide)]; show (if _ then _ else _) = _; rw [if_pos ⟨rfl, h0, by rw [h1]; exact h⟩, h1]; refine congrArg some (mW_set (by decide) rfl (fun q hq => ?_))
  unfold mce; split <;> first | rfl | exact absurd rfl hq
theorem a_33 {n : Nat} (h : n < 480) : xaD (mW m0 t u) (m0 + 21) (nI n) = some (mD t 33 n) := by
  obtain ⟨h0, h1⟩ := nI_rg h (by decide)
  unfold xaD; rw [mW_at (by decide)]; show (if _ then _ else _) = _; rw [if_pos ⟨rfl, h0, by rw [h1]; exact h⟩, h1]
theorem s_33 {n : Nat} {x : UInt64} (h : n < 480) : xsD (mW m0 t u) (m0 + 21) (nI n) x = some (mW m0 (sD t 33 n (x)) u) := by
  obtain ⟨h0, h1⟩ := nI_rg h (by decide)
  unfold xsD; rw [mW_at (by decide)]; show (if _ then _ else _) = _; rw [if_pos ⟨rfl, h0, by rw [h1]; exact h⟩, h1]; refine congrArg some (mW_set (by decide) rfl (fun q hq => ?_))
  unfold mce; split <;> first | rfl | exact absurd rfl hq
end MOD
end
section
/-! what a notebook is: rows by their names, columns, what is shown and held, the clip, pairs, stones, counts, images -/
/-- the table of homes -/
def xhom (j : Nat) : Int32 := match j with
  | 0 => 513
  | 1 => 762
  | 2 => 756
  | 3 => 760
  | 4 => 1008
  | 5 => 736
  | 6 => 704
  | 7 => 640
  | 8 => 1024
  | 9 => 3072
  | 10 => 4608
  | _ => 7936
/-- a thing: its kind, its number, its broken number -/
abbrev mC : Type := Int32 × Int64 × UInt64
/-- an array: its type, its size, its elements -/
abbrev sR : Type := Nat × Nat × (Nat → mC)
/-- what a column holds: an array or a thing -/
abbrev sO : Type := Nat ⊕ mC
abbrev sS : Type := (Nat → sO) × (Nat → Option sR) × mC × mC × Option Nat × (Nat × (Nat → Nat) × (Nat → Nat)) × (Nat → Int32) × Nat × (Nat → Int32) × Int32 × (Nat → Option (Nat → sO))
abbrev qC (S : sS) : Nat → sO := S.1
abbrev qR (S : sS) : Nat → Option sR := S.2.1
abbrev qS (S : sS) : mC := S.2.2.1
abbrev qH (S : sS) : mC := S.2.2.2.1
abbrev qK (S : sS) : Option Nat := S.2.2.2.2.1
abbrev qP (S : sS) : Nat × (Nat → Nat) × (Nat → Nat) := S.2.2.2.2.2.1
abbrev qW (S : sS) : Nat → Int32 := S.2.2.2.2.2.2.1
abbrev qN (S : sS) : Nat := S.2.2.2.2.2.2.2.1
abbrev qT (S : sS) : Nat → Int32 := S.2.2.2.2.2.2.2.2.1
abbrev qA (S : sS) : Int32 := S.2.2.2.2.2.2.2.2.2.1
abbrev qI (S : sS) : Nat → Option (Nat → sO) := S.2.2.2.2.2.2.2.2.2.2
def uC (S : sS) (c : Nat) (h : sO) : sS := (va_up S.1 c h, S.2)
def uPg (S : sS) (f : Nat → sO) : sS := (f, S.2)
def uR (S : sS) (r : Nat) (x : sR) : sS := (S.1, va_up S.2.1 r (some x), S.2.2)
def uS (S : sS) (v : mC) : sS := (S.1, S.2.1, v, S.2.2.2)
def uH (S : sS) (v : mC) : sS := (S.1, S.2.1, S.2.2.1, v, S.2.2.2.2)
def uK (S : sS) (r : Nat) : sS := (S.1, S.2.1, S.2.2.1, S.2.2.2.1, some r, S.2.2.2.2.2)
def uP (S : sS) (p : Nat × (Nat → Nat) × (Nat → Nat)) : sS := (S.1, S.2.1, S.2.2.1, S.2.2.2.1, S.2.2.2.2.1, p, S.2.2.2.2.2.2)
def uW (S : sS) (i : Nat) (x : Int32) : sS := (S.1, S.2.1, S.2.2.1, S.2.2.2.1, S.2.2.2.2.1, S.2.2.2.2.2.1, va_up S.2.2.2.2.2.2.1 i x, S.2.2.2.2.2.2.2)
def uN (S : sS) (n : Nat) : sS := (S.1, S.2.1, S.2.2.1, S.2.2.2.1, S.2.2.2.2.1, S.2.2.2.2.2.1, S.2.2.2.2.2.2.1, n, S.2.2.2.2.2.2.2.2)
def uT (S : sS) (i : Nat) : sS := (S.1, S.2.1, S.2.2.1, S.2.2.2.1, S.2.2.2.2.1, S.2.2.2.2.2.1, S.2.2.2.2.2.2.1, S.2.2.2.2.2.2.2.1, va_up S.2.2.2.2.2.2.2.2.1 i (S.2.2.2.2.2.2.2.2.1 i + 1), S.2.2.2.2.2.2.2.2.2)
def uA (S : sS) (x : Int32) : sS := (S.1, S.2.1, S.2.2.1, S.2.2.2.1, S.2.2.2.2.1, S.2.2.2.2.2.1, S.2.2.2.2.2.2.1, S.2.2.2.2.2.2.2.1, S.2.2.2.2.2.2.2.2.1, x, S.2.2.2.2.2.2.2.2.2.2)
def uI (S : sS) (k : Nat) (f : Nat → sO) : sS := (S.1, S.2.1, S.2.2.1, S.2.2.2.1, S.2.2.2.2.1, S.2.2.2.2.2.1, S.2.2.2.2.2.2.1, S.2.2.2.2.2.2.2.1, S.2.2.2.2.2.2.2.2.1, S.2.2.2.2.2.2.2.2.2.1, va_up S.2.2.2.2.2.2.2.2.2.2 k (some f))
/-- can an array of a type have a thing of a kind -/
def fitB (ty k : Nat) : Bool := (xhom k).toBitVec.getLsbD ty
/-- a number as one of a type that its own widens to -/
def wid (v : mC) (k : Nat) : mC := if nI k = v.1 then v else if v.1 = 6 then (nI k, 0, v.2.2) else if k = 6 then (nI k, 0, FP.f2d (FP.l2f v.2.1)) else if k = 7 then (nI k, 0, FP.l2d v.2.1) else (nI k, v.2.1, 0)
/-- what is put into an array of a type -/
def pv (ty : Nat) (v : mC) : mC := if 7 < ty then v else wid v ty
def blk (ty : Nat) : mC := (if 7 < ty then 11 else nI ty, 0, 0)
/-- a broken number that is a multiple of an eighth, and not too great -/
def nR (B : Int) (x : UInt64) : Prop := ∃ s c q, FP.Core.val64 x = FP.Core.Datum.fin s c q ∧ (c = 0 ∨ q ≤ B ∧ 2 ^ (-3 - q).toNat ∣ c)
/-- a thing as it may be, with so many stones -/
def tok (N : Nat) (v : mC) : Prop := ∃ k, k < 12 ∧ v.1 = nI k ∧ ((k < 6 ∧ v.2.2 = 0) ∨ ((k = 6 ∨ k = 7) ∧ v.2.1 = 0 ∧ nR 11 v.2.2) ∨ ((k = 8 ∨ k = 9) ∧ v.2.2 = 0 ∧ ∃ j, 0 < j ∧ j ≤ N ∧ v.2.1 = lN j) ∨ (k = 10 ∧ v.2.2 = 0 ∧ ∃ j, j < 100 ∧ v.2.1 = lN j) ∨ (k = 11 ∧ v.2.1 = 0 ∧ v.2.2 = 0))
/-- an array as it may be -/
def rok (N : Nat) (r : sR) : Prop := r.1 < 13 ∧ r.2.1 ≤ 24 ∧ ∀ i, i < r.2.1 → tok N (r.2.2 i) ∧ (∃ k, k < 12 ∧ (r.2.2 i).1 = nI k ∧ fitB r.1 k = true) ∧ (r.1 ≤ 7 → (r.2.2 i).1 = nI r.1)
/-- a column as it may be -/
def hok (N : Nat) (R : Nat → Option sR) (h : sO) : Prop := match h with
  | .inl r => ∃ x, R r = some x ∧ rok N x
  | .inr v => v = (11, 0, 0) ∨ (∃ j, j < 100 ∧ v = (10, lN j, 0)) ∨ (∃ j, 0 < j ∧ j ≤ N ∧ v = (8, lN j, 0))
def wf (S : sS) : Prop :=
  (∀ c, c < 10 → hok (qN S) (qR S) (qC S c)) ∧
  (∃ k, k < 8 ∧ (qS S).1 = nI k ∧ ((k = 6 ∨ k = 7) → nR 20 (qS S).2.2)) ∧
  tok (qN S) (qH S) ∧
  (∀ r, qK S = some r → (∃ x, qR S r = some x ∧ rok (qN S) x) ∧ ∀ c, c < 10 → qC S c ≠ .inl r) ∧
  ((qP S).1 ≤ 24 ∧ ∀ i, i < (qP S).1 → (qP S).2.1 i < 24 ∧ (qP S).2.2 i < 24) ∧
  qN S ≤ 60 ∧
  (∀ k f, k < 2 → qI S k = some f → ∀ c, c < 10 → hok (qN S) (qR S) (f c) ∧ ∀ r, f c = .inl r → ∀ d, d < 10 → qC S d ≠ .inl r)
end
section
/-! broken numbers: what is asked of them (proved further on by the values) -/
theorem nR_D {α : Type} {B : Int} {x : UInt64} {f : UInt64 → Option α} (h : nR B x) : xnD x f = f x := by sorry
theorem nR_mono {B C : Int} {x : UInt64} (h : nR B x) (hB : B ≤ C) : nR C x := by
  obtain ⟨s, c, q, h1, h2⟩ := h
  exact ⟨s, c, q, h1, h2.imp id (fun h => ⟨by omega, h.2⟩)⟩
theorem nR_0 (B : Int) : nR B 0 := by sorry
theorem nR_l2f (n : Int64) : nR 11 (FP.f2d (FP.l2f n)) := by sorry
theorem nR_l2d (n : Int64) : nR 11 (FP.l2d n) := by sorry
theorem nR_m7 (n : Int64) : nR 11 (FP.ddiv (FP.l2d n) 4620693217682128896) := by sorry
theorem nR_m6 (n : Int64) : nR 11 (FP.ddiv (FP.f2d (FP.l2f n)) 4620693217682128896) := by sorry
theorem fl_m6 {α : Type} (n : Int64) (f : UInt64 → Option α) : (xnF (FP.fdiv (FP.l2f n) 1090519040) fun z => xnD (FP.f2d z) f) = f (FP.ddiv (FP.f2d (FP.l2f n)) 4620693217682128896) := by sorry
def dS (g : Nat → UInt64) : Nat → UInt64
  | 0 => 0
  | n + 1 => FP.dadd (dS g n) (g n)
def fS (g : Nat → UInt64) : Nat → UInt32
  | 0 => 0
  | n + 1 => FP.fadd (fS g n) (FP.d2f (g n))
theorem dS_ok {g : Nat → UInt64} {n : Nat} (hn : n ≤ 24) (h : ∀ i, i < n → nR 11 (g i)) : nR 20 (dS g n) := by sorry
theorem fS_ok {g : Nat → UInt64} {n : Nat} (hn : n ≤ 24) (h : ∀ i, i < n → nR 11 (g i)) : nR 20 (FP.f2d (fS g n)) ∧ FP.d2f (FP.f2d (fS g n)) = fS g n ∧ (∀ {α : Type} (f : UInt32 → Option α), xnF (fS g n) f = f (fS g n)) := by sorry
theorem fl_d2f {α : Type} {x : UInt64} (h : nR 11 x) (f : UInt32 → Option α) : xnF (FP.d2f x) f = f (FP.d2f x) := by sorry
/-- two numbers are compared: less, equal, greater -/
theorem fl_cmp {x y : UInt64} (hx : nR 11 x) (hy : nR 11 y) : FP.dcmp x y = some .lt ∨ FP.dcmp x y = some .eq ∨ FP.dcmp x y = some .gt := by sorry
/-- the bits of a number as a float, as a double -/
def c6 (x : UInt64) : Int32 := if x.toNat % 2 ^ 63 = 0 then 0 else Int32.ofNat (x.toNat % 2 ^ 52 / 2 ^ 29 + (x.toNat / 2 ^ 52 % 2048 - 896) * 2 ^ 23) ||| (if x.toNat / 2 ^ 63 = 1 then -2147483648 else 0)
def c7 (x : UInt64) : Int64 := if x.toNat % 2 ^ 63 = 0 then 0 else x.toInt64
theorem fl_b6 {x : UInt64} (h : nR 20 x) (w : xW) : xev 99 0 [some (xD x), none, none, none, none, none] [] w = some (some (xI (c6 x)), w) := by sorry
theorem fl_b7 {x : UInt64} (h : nR 20 x) (w : xW) : xev 100 0 [some (xD x), none, none, none, none, none, none, none] [] w = some (some (xJ (c7 x)), w) := by sorry
theorem fl_x6 {x : UInt64} (h : nR 20 x) (w : xW) : xev 38 0 [some (xD x), none, some (xI 23), some (xI 127), some (xI 31), none, none, none, none, none, none, none] [] w = some (some (xJ (c6 x).toInt64), w) := by sorry
theorem fl_x7 {x : UInt64} (h : nR 20 x) (w : xW) : xev 38 0 [some (xD x), none, some (xI 52), some (xI 1023), some (xI 63), none, none, none, none, none, none, none] [] w = some (some (xJ (c7 x)), w) := by sorry
/-- what glass shows of a thing -/
def cde (v : mC) : Int64 := if v.1 = 6 then (c6 v.2.2).toInt64 else if v.1 = 7 then c7 v.2.2 else v.2.1
end
section
/-! what single accesses do -/
/-- what length would answer -/
def lenA (S : sS) (c : Nat) : Nat := match qC S c with
  | .inl _ => 0
  | .inr v => if v.1 = 11 then 1 else 2
abbrev inB (x : Int32) (n : Nat) : Prop := ¬ x < 0 ∧ x.toNatClampNeg < n
/-- the kind of a thing -/
abbrev kn (v : mC) : Nat := v.1.toNatClampNeg
def rdA (S : sS) (c : Nat) (cell : Int32) (k : Nat) : Nat × sS := match qC S c with
  | .inr v => (if v.1 = 11 then 1 else 2, S)
  | .inl r => match qR S r with
    | none => (0, S)
    | some x => if 7 < x.1 then (3, S) else if inB cell x.2.1 then (if fitB k x.1 = true then (0, uS S (wid (x.2.2 cell.toNatClampNeg) k)) else (5, S)) else (4, S)
def wrA (S : sS) (c : Nat) (cell : Int32) (v : mC) : Nat × sS := match qC S c with
  | .inr v => (if v.1 = 11 then 1 else 2, S)
  | .inl r => match qR S r with
    | none => (0, S)
    | some x => if 7 < x.1 then (3, S) else if inB cell x.2.1 then (if fitB x.1 (kn v) = true then (0, uR S r (x.1, x.2.1, va_up x.2.2 cell.toNatClampNeg (pv x.1 v))) else (5, S)) else (4, S)
def tkA (S : sS) (c : Nat) (cell : Int32) : Nat × sS := match qC S c with
  | .inr v => (if v.1 = 11 then 1 else 2, S)
  | .inl r => match qR S r with
    | none => (0, S)
    | some x => if inB cell x.2.1 then (0, uH S (x.2.2 cell.toNatClampNeg)) else (4, S)
def lyA (S : sS) (c : Nat) (cell : Int32) : Nat × sS := match qC S c with
  | .inr v => (if v.1 = 11 then 1 else 2, S)
  | .inl r => match qR S r with
    | none => (0, S)
    | some x => if inB cell x.2.1 then (if fitB x.1 (kn (qH S)) = true then (0, uR S r (x.1, x.2.1, va_up x.2.2 cell.toNatClampNeg (pv x.1 (qH S)))) else (5, S)) else (4, S)
/-- an access is counted -/
def cnt (a : Nat) (p : Nat × sS) : Nat × sS := (p.1, uT p.2 (6 * a + p.1))
section OPS
variable {S : sS} {c k r : Nat} {cell : Int32} {v w : mC} {x : sR}
theorem lenA_th (h : qC S c = .inr v) : lenA S c = if v.1 = 11 then 1 else 2 := by unfold lenA; rw [h]
theorem lenA_row (h : qC S c = .inl r) : lenA S c = 0 := by unfold lenA; rw [h]
theorem rdA_th (h : qC S c = .inr v) : rdA S c cell k = (if v.1 = 11 then 1 else 2, S) := by unfold rdA; rw [h]
theorem rdA_row (h : qC S c = .inl r) (hx : qR S r = some x) : rdA S c cell k = if 7 < x.1 then (3, S) else if inB cell x.2.1 then (if fitB k x.1 = true then (0, uS S (wid (x.2.2 cell.toNatClampNeg) k)) else (5, S)) else (4, S) := by
  unfold rdA; rw [h]; simp only; rw [hx]
theorem wrA_th (h : qC S c = .inr v) : wrA S c cell w = (if v.1 = 11 then 1 else 2, S) := by unfold wrA; rw [h]
theorem wrA_row (h : qC S c = .inl r) (hx : qR S r = some x) : wrA S c cell w = if 7 < x.1 then (3, S) else if inB cell x.2.1 then (if fitB x.1 (kn w) = true then (0, uR S r (x.1, x.2.1, va_up x.2.2 cell.toNatClampNeg (pv x.1 w))) else (5, S)) else (4, S) := by
  unfold wrA; rw [h]; simp only; rw [hx]
theorem tkA_th (h : qC S c = .inr v) : tkA S c cell = (if v.1 = 11 then 1 else 2, S) := by unfold tkA; rw [h]
theorem tkA_row (h : qC S c = .inl r) (hx : qR S r = some x) : tkA S c cell = if inB cell x.2.1 then (0, uH S (x.2.2 cell.toNatClampNeg)) else (4, S) := by
  unfold tkA; rw [h]; simp only; rw [hx]
theorem lyA_th (h : qC S c = .inr v) : lyA S c cell = (if v.1 = 11 then 1 else 2, S) := by unfold lyA; rw [h]
theorem lyA_row (h : qC S c = .inl r) (hx : qR S r = some x) : lyA S c cell = if inB cell x.2.1 then (if fitB x.1 (kn (qH S)) = true then (0, uR S r (x.1, x.2.1, va_up x.2.2 cell.toNatClampNeg (pv x.1 (qH S)))) else (5, S)) else (4, S) := by
  unfold lyA; rw [h]; simp only; rw [hx]
end OPS
end
section
/-! the reference's small methods -/
theorem xrI_e {α : Type} {x : Int32} {f : Int32 → Option α} : xrI (some (xI x)) f = f x := rfl
theorem xrJ_e {α : Type} {x : Int64} {f : Int64 → Option α} : xrJ (some (xJ x)) f = f x := rfl
theorem xrD_e {α : Type} {x : UInt64} {f : UInt64 → Option α} : xrD (some (xD x)) f = f x := rfl
theorem xrA_e {α : Type} {x : Option Nat} {f : Option Nat → Option α} : xrA (some (xA x)) f = f x := rfl
theorem xrV_e {α : Type} {f : Option α} : xrV none f = f := rfl
theorem lgc_lt (x y : Int64) : lg_cmp x y < 0 ↔ x < y := by
  have h := lg_cmp_ge x y
  rw [← xnle, h, Int64.lt_iff_toInt_lt, Int64.le_iff_toInt_le]
  omega
theorem lgc_gt (x y : Int64) : 0 < lg_cmp x y ↔ y < x := by
  unfold lg_cmp
  by_cases h : x > y
  · rw [if_pos h]; exact ⟨fun _ => h, fun _ => by decide⟩
  · rw [if_neg h]
    split
    · exact ⟨fun q => absurd q (by decide), fun q => absurd q h⟩
    · exact ⟨fun q => absurd q (by decide), fun q => absurd q h⟩
theorem w64 (a b : Int32) : a.toInt64 < b.toInt64 ↔ a < b := by
  rw [Int64.lt_iff_toInt_lt, Int32.lt_iff_toInt_lt, Int32.toInt_toInt64, Int32.toInt_toInt64]
/-- in(v, low, high) -/
theorem c_in (v lo hi : Int64) (w : xW) : xev 88 0 [some (xJ v), none, some (xJ lo), none, some (xJ hi), none] [] w = some (some (xI (if v < lo ∨ hi < v then 0 else 1)), w) := by
  rw [e_X8_in_0, b_X8_in_0]
  simp only [lgc_lt, lgc_gt]
  by_cases h1 : v < lo
  · rw [if_pos h1, if_pos (Or.inl h1)]
  · by_cases h2 : hi < v
    · rw [if_neg h1, if_pos h2, if_pos (Or.inr h2)]
    · rw [if_neg h1, if_neg h2, if_neg (by rintro (h | h) <;> contradiction)]
/-- is it one of the first n numbers -/
def inR (x : Int32) (n : Nat) : Prop := ∃ i : Nat, i < n ∧ x = nI i
theorem inR_iff {x : Int32} {n : Nat} (hn : n < 2 ^ 31) : inR x n ↔ ¬ x < 0 ∧ x < nI n := by
  constructor
  · rintro ⟨i, hi, rfl⟩
    exact ⟨nI_pos (by omega), nI_lt hi hn⟩
  · rintro ⟨h1, h2⟩
    obtain ⟨j, hj, rfl⟩ := nI_of h1
    exact ⟨j, (nI_ltI hj hn).mp h2, rfl⟩
theorem c_in32 (x : Int32) (n : Nat) (hi : Int64) (hn : n < 2 ^ 31) (hh : hi = (nI n - 1).toInt64) (w : xW) : (inR x n → xev 88 0 [some (xJ x.toInt64), none, some (xJ 0), none, some (xJ hi), none] [] w = some (some (xI 1), w)) ∧ (¬ inR x n → xev 88 0 [some (xJ x.toInt64), none, some (xJ 0), none, some (xJ hi), none] [] w = some (some (xI 0), w)) := by
  have h0 : (0 : Int64) = (0 : Int32).toInt64 := by decide
  have key : (x.toInt64 < 0 ∨ hi < x.toInt64) ↔ ¬ inR x n := by
    rw [hh, h0, w64, w64, inR_iff hn]
    have e1 : (nI n - 1).toInt = (n : Int) - 1 := by
      have := pk_sub_toInt (a := n) (b := 1)
      rw [Int32.toInt_sub, nI_toInt hn]
      show (_ : Int).bmod _ = _
      have : (1 : Int32).toInt = 1 := by decide
      rw [this, Int.bmod_eq_of_le (by omega) (by omega)]
    rw [Int32.lt_iff_toInt_lt, Int32.lt_iff_toInt_lt, Int32.lt_iff_toInt_lt, e1, nI_toInt hn]
    have z : (0 : Int32).toInt = 0 := by decide
    rw [z]
    omega
  constructor
  · intro h
    rw [c_in, if_neg (fun q => key.mp q h)]
  · intro h
    rw [c_in, if_pos (key.mpr h)]
/-- a check over two's powers of a small number: what a test of 0 and 1 says -/
theorem bit1 {x : Int32} (h : x = 0 ∨ x = 1) : x &&& 1 = x := by rcases h with rfl | rfl <;> decide
theorem c_col_t {c : Int32} (h : inR c 10) (w : xW) : xev 89 0 [some (xI c)] [] w = some (some (xI 1), w) := by
  rw [e_X8_isColumn_0, b_X8_isColumn_0, (c_in32 c 10 9 (by decide) (by decide) w).1 h]
  rfl
theorem c_col_f {c : Int32} (h : ¬ inR c 10) (w : xW) : xev 89 0 [some (xI c)] [] w = some (some (xI 0), w) := by
  rw [e_X8_isColumn_0, b_X8_isColumn_0, (c_in32 c 10 9 (by decide) (by decide) w).2 h]
  rfl
section ML
variable {m0 : Nat} {t : mS} {u : xW}
def mT (t : mS) (k : Nat) : mC := (mI t 2 k, mJ t 3 k, mD t 4 k)
def mPut (t : mS) (k : Nat) (x : mC) : mS := sD (sJ (sI t 2 k x.1) 3 k x.2.1) 4 k x.2.2
theorem mT_put (t : mS) (k j : Nat) (x : mC) : mT (mPut t k x) j = if j = k then x else mT t j := by
  unfold mT mPut sD sJ sI mI mJ mD va_up
  by_cases h : j = k
  · simp [h]
  · simp [h]
/-- what a put leaves as it was -/
theorem mPut_I (t : mS) (k : Nat) (x : mC) {j : Nat} (h : j ≠ 2) : mI (mPut t k x) j = mI t j := by
  unfold mPut sD sJ sI mI va_up
  simp [h]
theorem mPut_J (t : mS) (k : Nat) (x : mC) {j : Nat} (h : j ≠ 3) : mJ (mPut t k x) j = mJ t j := by
  unfold mPut sD sJ sI mJ va_up
  simp [h]
theorem mPut_D (t : mS) (k : Nat) (x : mC) {j : Nat} (h : j ≠ 4) : mD (mPut t k x) j = mD t j := by
  unfold mPut sD sJ sI mD va_up
  simp [h]
theorem mPut_i (t : mS) (k : Nat) (x : mC) : mi (mPut t k x) = mi t := rfl
theorem mPut_j (t : mS) (k : Nat) (x : mC) : mj (mPut t k x) = mj t := rfl
theorem mPut_d (t : mS) (k : Nat) (x : mC) : md (mPut t k x) = md t := rfl
theorem c_isRow_t {i : Nat} (hi : i < 10) (h : inR (mI t 5 i) 16) : xev 90 0 [some (xA (some m0)), some (xI (nI i))] [] (mW m0 t u) = some (some (xI 1), mW m0 t u) := by
  rw [e_X8_isRow_0, b_X8_isRow_0, g_5, Option.bind_some, Option.bind_some, a_5 hi, Option.bind_some, (c_in32 _ 16 15 (by decide) (by decide) _).1 h]
  rfl
theorem c_isRow_f {i : Nat} (hi : i < 10) (h : ¬ inR (mI t 5 i) 16) : xev 90 0 [some (xA (some m0)), some (xI (nI i))] [] (mW m0 t u) = some (some (xI 0), mW m0 t u) := by
  rw [e_X8_isRow_0, b_X8_isRow_0, g_5, Option.bind_some, Option.bind_some, a_5 hi, Option.bind_some, (c_in32 _ 16 15 (by decide) (by decide) _).2 h]
  rfl
theorem c_put {k : Nat} (hk : k < 384) (x : mC) : xev 94 0 [some (xA (some m0)), some (xI (nI k)), some (xI x.1), some (xJ x.2.1), none, some (xD x.2.2), none] [] (mW m0 t u) = some (none, mW m0 (mPut t k x) u) := by
  rw [e_X8_put_0, b_X8_put_0]
  simp only [g_2, g_3, g_4, Option.bind_some, s_2 hk, s_3 hk, s_4 hk]
  rfl
theorem c_copy {k j : Nat} (hk : k < 384) (hj : j < 384) : xev 95 0 [some (xA (some m0)), some (xI (nI k)), some (xI (nI j))] [] (mW m0 t u) = some (none, mW m0 (mPut t j (mT t k)) u) := by
  rw [e_X8_copy_0, b_X8_copy_0]
  simp only [g_2, g_3, g_4, Option.bind_some, a_2 hk, a_3 hk, a_4 hk, mW_obj]
  have h : xev 94 0 [some (xA (some m0)), some (xI (nI j)), some (xI (mI t 2 k)), some (xJ (mJ t 3 k)), none, some (xD (mD t 4 k)), none] [] (mW m0 t u) = some (none, mW m0 (mPut t j (mT t k)) u) := c_put hj (mT t k)
  rw [h]
  rfl
theorem c_counted {a b : Nat} (ha : a < 19) (hb : b < 6) : xev 106 0 [some (xA (some m0)), some (xI (nI a)), some (xI (nI b))] [] (mW m0 t u) = some (some (xI (nI b)), mW m0 (sI t 14 (6 * a + b) (mI t 14 (6 * a + b) + 1)) u) := by
  have e : (6 : Int32) * nI a + nI b = nI (6 * a + b) := by
    rw [show (6 : Int32) = nI 6 from rfl, pk_mul, nI_add]
  rw [e_X8_counted_0, b_X8_counted_0]
  simp only [g_14, Option.bind_some, e, a_14 (show 6 * a + b < 114 by omega), s_14 (show 6 * a + b < 114 by omega)]
/-! rows of puts -/
def mFold (t : mS) (dst : Nat → Nat) (v : Nat → mC) : Nat → mS
  | 0 => t
  | n + 1 => mPut (mFold t dst v n) (dst n) (v n)
theorem mFold_I (dst : Nat → Nat) (v : Nat → mC) {j : Nat} (h : j ≠ 2) : ∀ n, mI (mFold t dst v n) j = mI t j
  | 0 => rfl
  | n + 1 => by rw [mFold, mPut_I _ _ _ h, mFold_I dst v h n]
theorem mFold_J (dst : Nat → Nat) (v : Nat → mC) {j : Nat} (h : j ≠ 3) : ∀ n, mJ (mFold t dst v n) j = mJ t j
  | 0 => rfl
  | n + 1 => by rw [mFold, mPut_J _ _ _ h, mFold_J dst v h n]
theorem mFold_D (dst : Nat → Nat) (v : Nat → mC) {j : Nat} (h : j ≠ 4) : ∀ n, mD (mFold t dst v n) j = mD t j
  | 0 => rfl
  | n + 1 => by rw [mFold, mPut_D _ _ _ h, mFold_D dst v h n]
theorem mFold_i (dst : Nat → Nat) (v : Nat → mC) : ∀ n, mi (mFold t dst v n) = mi t
  | 0 => rfl
  | n + 1 => by rw [mFold, mPut_i, mFold_i dst v n]
theorem mFold_j (dst : Nat → Nat) (v : Nat → mC) : ∀ n, mj (mFold t dst v n) = mj t
  | 0 => rfl
  | n + 1 => by rw [mFold, mPut_j, mFold_j dst v n]
theorem mFold_d (dst : Nat → Nat) (v : Nat → mC) : ∀ n, md (mFold t dst v n) = md t
  | 0 => rfl
  | n + 1 => by rw [mFold, mPut_d, mFold_d dst v n]
theorem mFold_out {dst : Nat → Nat} {v : Nat → mC} {k : Nat} : ∀ n, (∀ j, j < n → dst j ≠ k) → mT (mFold t dst v n) k = mT t k
  | 0, _ => rfl
  | n + 1, h => by
    rw [mFold, mT_put, if_neg (fun q => h n (Nat.lt_succ_self n) q.symm)]
    exact mFold_out n (fun j hj => h j (by omega))
theorem mFold_in {dst : Nat → Nat} {v : Nat → mC} : ∀ n, (∀ i j, i < n → j < n → dst i = dst j → i = j) → ∀ j, j < n → mT (mFold t dst v n) (dst j) = v j
  | 0, _, j, hj => absurd hj (Nat.not_lt_zero _)
  | n + 1, h, j, hj => by
    rw [mFold, mT_put]
    by_cases hjn : j = n
    · subst hjn
      rw [if_pos rfl]
    · rw [if_neg (fun q => hjn (h j n hj (Nat.lt_succ_self n) q))]
      exact mFold_in n (fun a b ha hb => h a b (by omega) (by omega)) j (by omega)
/-- a new row -/
def mBlank (kind : Int32) : mC := (if kind < 8 then kind else 11, 0, 0)
def mBegin (t : mS) (r : Nat) (kind n : Int32) : mS := mFold (sI (sI t 0 r kind) 1 r n) (fun j => 24 * r + j) (fun _ => mBlank kind) 24
theorem c_begin_l {r : Nat} (hr : r < 16) {kind : Int32} (t0 : mS) : ∀ d k : Nat, k + d = 24 → xev 93 17 [some (xA (some m0)), some (xI (nI r)), some (xI kind), none, some (xI (nI k))] [] (mW m0 (mFold t0 (fun j => 24 * r + j) (fun _ => mBlank kind) k) u) = some (none, mW m0 (mFold t0 (fun j => 24 * r + j) (fun _ => mBlank kind) 24) u)
  | 0, k, h => by
    obtain rfl : k = 24 := by omega
    rw [e_X8_begin_17, b_X8_begin_17, if_neg (by decide)]
  | d + 1, k, h => by
    have hk : k < 24 := by omega
    have e : (24 : Int32) * nI r + nI k = nI (24 * r + k) := by
      rw [show (24 : Int32) = nI 24 from rfl, pk_mul, nI_add]
    have lt : nI k < (24 : Int32) := nI_lt (b := 24) hk (by decide)
    have ih := c_begin_l hr (kind := kind) t0 d (k + 1) (by omega)
    have hp := c_put (m0 := m0) (t := mFold t0 (fun j => 24 * r + j) (fun _ => mBlank kind) k) (u := u) (k := 24 * r + k) (by omega) (mBlank kind)
    rw [e_X8_begin_17, b_X8_begin_17, if_pos lt, e]
    simp only [mW_obj, Option.bind_some, nI_1]
    unfold mBlank at hp ih ⊢
    by_cases h8 : kind < 8
    · rw [if_pos h8] at hp ih ⊢
      rw [if_pos h8, hp]
      exact ih
    · rw [if_neg h8] at hp ih ⊢
      rw [if_neg h8, hp]
      exact ih
theorem c_begin {r : Nat} (hr : r < 16) (kind n : Int32) : xev 93 0 [some (xA (some m0)), some (xI (nI r)), some (xI kind), some (xI n), none] [] (mW m0 t u) = some (none, mW m0 (mBegin t r kind n) u) := by
  rw [e_X8_begin_0, b_X8_begin_0]
  simp only [g_0, g_1, Option.bind_some, s_0 hr, s_1 hr]
  exact c_begin_l hr _ 24 0 rfl
end ML
end
section
/-! the reference's rules -/
theorem nI_m1 {q : Nat} (h : q < 2 ^ 31) : nI q ≠ -1 := by
  intro e
  have := congrArg Int32.toInt e
  rw [nI_toInt h] at this
  have z : (-1 : Int32).toInt = -1 := by decide
  omega
theorem iteC {c : Prop} [Decidable c] {x y : Int32} {w : xW} : (if c then (some (some (xI x), w) : Option xR) else some (some (xI y), w)) = some (some (xI (if c then x else y)), w) := by split <;> rfl
def bI (b : Bool) : Int32 := if b = true then 1 else 0
theorem c_widens {a b : Nat} (ha : a < 8) (hb : b < 8) (w : xW) : xev 97 0 [some (xI (nI a)), some (xI (nI b))] [] w = some (some (xI (bI (fitB b a))), w) := by
  rw [e_X8_widens_0, b_X8_widens_0]
  simp only [iteC]
  have d : ∀ a, a < 8 → ∀ b, b < 8 → (if nI a = nI b then (1 : Int32) else if nI a = 0 then 0 else if nI b < 3 then 0 else if nI b < nI a then 0 else if nI a = 2 then if nI b = 3 then 0 else 1 else 1) = bI (fitB b a) := by decide +kernel
  rw [d a ha b hb]
theorem c_canHold {ty k : Nat} (ht : ty < 13) (hk : k < 12) (w : xW) : xev 114 0 [some (xI (nI ty)), some (xI (nI k))] [] w = some (some (xI (bI (fitB ty k))), w) := by
  rw [e_X8_canHold_0, b_X8_canHold_0]
  by_cases h8 : ty < 8
  · have n : ∀ ty, ty < 8 → ¬ nI ty = Int32.ofInt 8 ∧ ¬ nI ty = Int32.ofInt 9 ∧ ¬ nI ty = Int32.ofInt 10 ∧ ¬ nI ty = Int32.ofInt 11 ∧ ¬ nI ty = Int32.ofInt 12 := by decide +kernel
    obtain ⟨n1, n2, n3, n4, n5⟩ := n ty h8
    rw [if_neg n1, if_neg n2, if_neg n3, if_neg n4, if_neg n5]
    by_cases k8 : k < 8
    · rw [if_pos (show nI k < 8 from nI_lt (b := 8) k8 (by decide)), c_widens k8 h8]
      cases fitB ty k <;> rfl
    · rw [if_neg (show ¬ nI k < 8 from nI_nlt (b := 8) (by omega) (by omega))]
      have d : ∀ ty, ty < 8 → ∀ k, k < 12 → ¬ k < 8 → fitB ty k = false := by decide +kernel
      rw [d ty h8 k hk k8]
      rfl
  · simp only [iteC]
    have d8 : ∀ k, k < 12 → (if nI k = 11 then (1 : Int32) else if nI k = 4 then 1 else 0) = bI (fitB 8 k) := by decide +kernel
    have d9 : ∀ k, k < 12 → (if nI k = 11 then (1 : Int32) else if nI k < 8 then 1 else if nI k = 10 then 1 else 0) = bI (fitB 9 k) := by decide +kernel
    have d10 : ∀ k, k < 12 → (if nI k = 11 then (1 : Int32) else if nI k = 8 then 1 else if nI k = 9 then 1 else 0) = bI (fitB 10 k) := by decide +kernel
    have d11 : ∀ k, k < 12 → (if nI k = 11 then (1 : Int32) else if nI k = 9 then 1 else 0) = bI (fitB 11 k) := by decide +kernel
    have d12 : ∀ k, k < 12 → (if nI k = 11 then (1 : Int32) else if nI k = 10 then 1 else 0) = bI (fitB 12 k) := by decide +kernel
    have hc : ty = 8 ∨ ty = 9 ∨ ty = 10 ∨ ty = 11 ∨ ty = 12 := by omega
    rcases hc with rfl | rfl | rfl | rfl | rfl
    · rw [if_pos (by decide), d8 k hk]
    · rw [if_neg (by decide), if_pos (by decide), d9 k hk]
    · rw [if_neg (by decide), if_neg (by decide), if_pos (by decide), d10 k hk]
    · rw [if_neg (by decide), if_neg (by decide), if_neg (by decide), if_pos (by decide), d11 k hk]
    · rw [if_neg (by decide), if_neg (by decide), if_neg (by decide), if_neg (by decide), if_pos (by decide), d12 k hk]
/-- what becomes of a broken part -/
def mwd (a b : Nat) (n : Int64) (d : UInt64) : UInt64 := if b < 6 then 0 else if 5 < a then d else if b = 6 then FP.f2d (FP.l2f n) else FP.l2d n
theorem nI_d {a b : Nat} (ha : a < 1000) (hb : b < 1000) : (nI a < nI b ↔ a < b) ∧ (nI a = nI b ↔ a = b) := ⟨nI_ltI (by omega) (by omega), nI_eq (by omega) (by omega)⟩
theorem c_widened {a b : Nat} (ha : a < 12) (hb : b < 8) (n : Int64) (d : UInt64) (w : xW) : xev 98 0 [some (xI (nI a)), some (xI (nI b)), some (xJ n), none, some (xD d), none] [] w = some (some (xD (mwd a b n d)), w) := by
  rw [e_X8_widened_0, b_X8_widened_0]
  unfold mwd
  have h1 : (nI b < 6) ↔ b < 6 := nI_ltI (b := 6) (by omega) (by decide)
  have h2 : ((5 : Int32) < nI a) ↔ 5 < a := nI_ltI (a := 5) (by decide) (by omega)
  have h3 : (nI b = 6) ↔ b = 6 := nI_eq (b := 6) (by omega) (by decide)
  simp only [h1, h2, h3, nR_D (nR_l2f n)]
  split
  · rfl
  · split
    · rfl
    · split <;> rfl
theorem wid_m {N a b : Nat} {v : mC} (hv : tok N v) (hk : v.1 = nI a) (ha : a < 8) (hb : b < 8) (hf : fitB b a = true) : wid v b = (nI b, if b < 6 then v.2.1 else 0, mwd a b v.2.1 v.2.2) := by
  obtain ⟨k, hk12, e, h⟩ := hv
  have : k = a := (nI_eq (by omega) (by omega)).mp (e.symm.trans hk)
  subst this
  obtain ⟨v1, v2, v3⟩ := v
  simp only at hk h ⊢
  subst hk
  unfold wid mwd
  simp only
  have f67 : k = 6 → b = 6 ∨ b = 7 := by
    have d : ∀ b, b < 8 → fitB b 6 = true → b = 6 ∨ b = 7 := by decide +kernel
    rintro rfl
    exact d b hb hf
  have f7 : k = 7 → b = 7 := by
    have d : ∀ b, b < 8 → fitB b 7 = true → b = 7 := by decide +kernel
    rintro rfl
    exact d b hb hf
  have e6 : (nI k = 6) ↔ k = 6 := nI_eq (b := 6) (by omega) (by decide)
  simp only [nI_eq (a := b) (b := k) (by omega) (by omega), e6]
  by_cases hbk : b = k
  · subst hbk
    rw [if_pos rfl]
    rcases h with ⟨h6, h0⟩ | ⟨h6, h0, _⟩ | ⟨h6, _⟩ | ⟨h6, _⟩ | ⟨h6, _⟩
    · rw [if_pos h6, if_pos h6, h0]
    · rw [if_neg (by omega), if_neg (by omega), if_pos (by omega), h0]
    · omega
    · omega
    · omega
  · rw [if_neg hbk]
    by_cases h6 : k = 6
    · rw [if_pos h6, if_neg (by have := f67 h6; omega), if_neg (by have := f67 h6; omega), if_pos (by omega)]
    · rw [if_neg h6]
      have hk6 : k < 6 := by
        by_cases h7 : k = 7
        · exact absurd (f7 h7) (by omega)
        · omega
      by_cases b6 : b = 6
      · rw [if_pos b6, if_neg (by omega), if_neg (by omega), if_neg (by omega), if_pos b6]
      · rw [if_neg b6]
        by_cases b7 : b = 7
        · rw [if_pos b7, if_neg (by omega), if_neg (by omega), if_neg (by omega), if_neg b6]
        · rw [if_neg b7, if_pos (by omega), if_pos (by omega)]
theorem wid_ok {N a b : Nat} {v : mC} (hv : tok N v) (hk : v.1 = nI a) (ha : a < 8) (hb : b < 8) (hf : fitB b a = true) : tok N (wid v b) ∧ (wid v b).1 = nI b := by
  have e := wid_m hv hk ha hb hf
  refine ⟨?_, by rw [e]⟩
  obtain ⟨k, hk12, ek, h⟩ := hv
  have : k = a := (nI_eq (by omega) (by omega)).mp (ek.symm.trans hk)
  subst this
  rw [e]
  refine ⟨b, by omega, rfl, ?_⟩
  unfold mwd
  simp only
  by_cases b6 : b < 6
  · left
    exact ⟨b6, by rw [if_pos b6]⟩
  · right; left
    refine ⟨by omega, by rw [if_neg b6], ?_⟩
    rw [if_neg b6]
    by_cases h5 : 5 < k
    · rw [if_pos h5]
      rcases h with ⟨h6, _⟩ | ⟨_, _, h0⟩ | ⟨h6, _⟩ | ⟨h6, _⟩ | ⟨h6, _⟩
      · omega
      · exact h0
      · omega
      · omega
      · omega
    · rw [if_neg h5]
      split
      · exact nR_l2f _
      · exact nR_l2d _
end
section
/-! the reference holds a notebook -/
/-- a place holds an array -/
def slt (t : mS) (q : Nat) (x : sR) : Prop := mI t 0 q = nI x.1 ∧ mI t 1 q = nI x.2.1 ∧ ∀ i, i < x.2.1 → mT t (24 * q + i) = x.2.2 i
def hcd (v : mC) : Int32 := if v.1 = 11 then -1 else if v.1 = 10 then 100 + v.2.1.toInt32 else 1000 + v.2.1.toInt32
def RmC (C : Nat → sO) (R : Nat → Option sR) (K : Option Nat) (t : mS) : Prop :=
  (∀ c r, c < 10 → C c = .inl r → ∃ x q, R r = some x ∧ q < 16 ∧ mI t 5 c = nI q ∧ slt t q x) ∧
  (∀ c v, c < 10 → C c = .inr v → mI t 5 c = hcd v) ∧
  (∀ c d r s, c < 10 → d < 10 → C c = .inl r → C d = .inl s → (mI t 5 c = mI t 5 d ↔ r = s)) ∧
  (K = none → mi t 6 = -6) ∧
  (∀ r, K = some r → ∃ x q, R r = some x ∧ q < 16 ∧ mi t 6 = nI q ∧ slt t q x ∧ ∀ c, c < 10 → mI t 5 c ≠ nI q)
def RmH (v : mC) (t : mS) : Prop := mi t 7 = v.1 ∧ mj t 8 = v.2.1 ∧ md t 9 = v.2.2
def RmG (v : mC) (t : mS) : Prop := mj t 10 = cde v
def RmW (W : Nat → Int32) (N : Nat) (t : mS) : Prop := (∀ i, i < 60 → mI t 11 (i + 1) = W i) ∧ mi t 13 = nI N
def RmT (T : Nat → Int32) (A : Int32) (t : mS) : Prop := (∀ i, i < 114 → mI t 14 i = T i) ∧ mi t 15 = A
def RmP (P : Nat × (Nat → Nat) × (Nat → Nat)) (t : mS) : Prop := mi t 18 = nI P.1 ∧ ∀ i, i < P.1 → mI t 16 i = nI (P.2.1 i) ∧ mI t 17 i = nI (P.2.2 i)
/-- an image's place holds an array -/
def slI (t : mS) (q : Nat) (x : sR) : Prop := mI t 29 q = nI x.1 ∧ mI t 30 q = nI x.2.1 ∧ ∀ i, i < x.2.1 → (mI t 31 (24 * q + i), mJ t 32 (24 * q + i), mD t 33 (24 * q + i)) = x.2.2 i
def RmI (R : Nat → Option sR) (G : Nat → Option (Nat → sO)) (t : mS) : Prop := ∀ k, k < 2 → (G k = none → mI t 26 k = 0) ∧ ∀ f, G k = some f → mI t 26 k = 1 ∧
  (∀ c v, c < 10 → f c = .inr v → mI t 28 (10 * k + c) = -6 ∧ mI t 27 (10 * k + c) = hcd v) ∧
  (∀ c r, c < 10 → f c = .inl r → ∃ x j, R r = some x ∧ j ≤ c ∧ mI t 28 (10 * k + c) = nI j ∧ f j = .inl r ∧ (∀ i, i < j → f i ≠ .inl r) ∧ slI t (10 * k + c) x)
def Rm (S : sS) (t : mS) : Prop := RmC (qC S) (qR S) (qK S) t ∧ RmH (qH S) t ∧ RmG (qS S) t ∧ RmW (qW S) (qN S) t ∧ RmT (qT S) (qA S) t ∧ RmP (qP S) t ∧ RmI (qR S) (qI S) t
theorem inB_nI {x : Int32} {n : Nat} (h : inB x n) : x = nI x.toNatClampNeg := by
  obtain ⟨j, hj, e⟩ := nI_of h.1
  have e2 := e
  subst e2
  rw [nI_clamp hj]
theorem inB_iff {x : Int32} {n : Nat} (hn : n < 2 ^ 31) : inB x n ↔ inR x n := by
  constructor
  · intro h
    exact ⟨_, h.2, inB_nI h⟩
  · rintro ⟨i, hi, rfl⟩
    exact ⟨nI_pos (by omega), by rw [nI_clamp (by omega)]; exact hi⟩
theorem inB_of {j n : Nat} (h : j < n) (hn : n < 2 ^ 31) : inB (nI j) n := ⟨nI_pos (by omega), by rw [nI_clamp (by omega)]; exact h⟩
theorem c_inB_t {x : Int32} {n : Nat} (hn : n < 2 ^ 31) (h : inB x n) (w : xW) : xev 88 0 [some (xJ x.toInt64), none, some (xJ 0), none, some (xJ (nI n - 1).toInt64), none] [] w = some (some (xI 1), w) := (c_in32 x n _ hn rfl w).1 ((inB_iff hn).mp h)
theorem c_inB_f {x : Int32} {n : Nat} (hn : n < 2 ^ 31) (h : ¬ inB x n) (w : xW) : xev 88 0 [some (xJ x.toInt64), none, some (xJ 0), none, some (xJ (nI n - 1).toInt64), none] [] w = some (some (xI 0), w) := (c_in32 x n _ hn rfl w).2 (fun q => h ((inB_iff hn).mpr q))
section MR
variable {m0 : Nat} {t : mS} {u : xW}
theorem c_first_row {i q : Nat} (hi : i < 10) (hq : q < 16) (h : mI t 5 i = nI q) : xev 91 0 [some (xA (some m0)), some (xI (nI i))] [] (mW m0 t u) = some (some (xI 0), mW m0 t u) := by
  rw [e_X8_first_0, b_X8_first_0]
  simp only [g_5, Option.bind_some, a_5 hi, h, if_neg (nI_m1 (show q < 2 ^ 31 by omega)), mW_obj, c_isRow_t hi (t := t) ⟨q, hq, h⟩]
  rfl
theorem c_first_bare {i : Nat} (hi : i < 10) (h : mI t 5 i = -1) : xev 91 0 [some (xA (some m0)), some (xI (nI i))] [] (mW m0 t u) = some (some (xI 1), mW m0 t u) := by
  rw [e_X8_first_0, b_X8_first_0]
  simp only [g_5, Option.bind_some, a_5 hi, h, if_pos]
theorem c_first_no {i j : Nat} (hi : i < 10) (hj : 16 ≤ j) (hj2 : j < 2 ^ 31) (h : mI t 5 i = nI j) : xev 91 0 [some (xA (some m0)), some (xI (nI i))] [] (mW m0 t u) = some (some (xI 2), mW m0 t u) := by
  have h2 : ¬ inR (mI t 5 i) 16 := by
    rintro ⟨k, hk, e⟩
    have := (nI_eq hj2 (by omega)).mp (h.symm.trans e)
    omega
  rw [e_X8_first_0, b_X8_first_0]
  simp only [g_5, Option.bind_some, a_5 hi, h, if_neg (nI_m1 hj2), mW_obj, c_isRow_f hi h2]
  rfl
theorem hcd_no {N : Nat} {v : mC} (hN : N ≤ 60) (h : v = (11, 0, 0) ∨ (∃ j, j < 100 ∧ v = (10, lN j, 0)) ∨ (∃ j, 0 < j ∧ j ≤ N ∧ v = (8, lN j, 0))) : (v.1 = 11 ∧ hcd v = -1) ∨ (v.1 = 10 ∧ ∃ j, 100 ≤ j ∧ j < 200 ∧ hcd v = nI j) ∨ (v.1 = 8 ∧ ∃ j, 1000 ≤ j ∧ j < 1061 ∧ hcd v = nI j) := by
  rcases h with rfl | ⟨j, hj, rfl⟩ | ⟨j, h0, hj, rfl⟩
  · left; exact ⟨rfl, rfl⟩
  · right; left
    refine ⟨rfl, 100 + j, by omega, by omega, ?_⟩
    show (if (10 : Int32) = 11 then _ else if (10 : Int32) = 10 then _ else _) = _
    rw [if_neg (by decide), if_pos rfl]
    show (100 : Int32) + (lN j).toInt32 = _
    rw [lN_i, ← nI_add]; rfl
  · right; right
    refine ⟨rfl, 1000 + j, by omega, by omega, ?_⟩
    show (if (8 : Int32) = 11 then _ else if (8 : Int32) = 10 then _ else _) = _
    rw [if_neg (by decide), if_neg (by decide)]
    show (1000 : Int32) + (lN j).toInt32 = _
    rw [lN_i, ← nI_add]; rfl
theorem c_firstS {S : sS} {c : Nat} (hR : Rm S t) (hw : wf S) (hc : c < 10) : xev 91 0 [some (xA (some m0)), some (xI (nI c))] [] (mW m0 t u) = some (some (xI (nI (lenA S c))), mW m0 t u) := by
  unfold lenA
  cases hq : qC S c with
  | inl r =>
    obtain ⟨x, q, _, q16, e, _⟩ := hR.1.1 c r hc hq
    exact c_first_row hc q16 e
  | inr v =>
    have hv : mI t 5 c = hcd v := hR.1.2.1 c v hc hq
    have hk := hw.1 c hc
    rw [hq] at hk
    rcases hcd_no hw.2.2.2.2.2.1 hk with ⟨e1, e2⟩ | ⟨e1, j, h1, h2, e2⟩ | ⟨e1, j, h1, h2, e2⟩
    · simp only [e1, if_pos]
      exact c_first_bare hc (hv.trans e2)
    · simp only [e1]
      rw [if_neg (by decide)]
      exact c_first_no hc (by omega) (by omega) (hv.trans e2)
    · simp only [e1]
      rw [if_neg (by decide)]
      exact c_first_no hc (by omega) (by omega) (hv.trans e2)
/-! a place that is not used -/
def unu (t : mS) (but : Int32) (r : Nat) : Prop := nI r ≠ mi t 6 ∧ nI r ≠ but ∧ ∀ c, c < 10 → mI t 5 c ≠ nI r
theorem nI_cover : ∀ (n : Nat) (L : List Int32), n < 2 ^ 31 → (∀ r, r < n → nI r ∈ L) → n ≤ L.length
  | 0, _, _, _ => Nat.zero_le _
  | n + 1, L, hn, h => by
    have h1 := h n (Nat.lt_succ_self n)
    have ih := nI_cover n (L.erase (nI n)) (by omega) (fun r hr => (List.mem_erase_of_ne (fun e => by
      have := (nI_eq (by omega) (by omega)).mp e
      omega)).mpr (h r (by omega)))
    have := List.length_erase_of_mem h1
    have := List.length_pos_of_mem h1
    omega
theorem unu_some (t : mS) (but : Int32) : ∃ r, r < 16 ∧ unu t but r := by
  refine Classical.byContradiction fun hn => ?_
  have := nI_cover 16 [mi t 6, but, mI t 5 0, mI t 5 1, mI t 5 2, mI t 5 3, mI t 5 4, mI t 5 5, mI t 5 6, mI t 5 7, mI t 5 8, mI t 5 9] (by decide) (fun r hr => by
    refine Classical.byContradiction fun hm => hn ⟨r, hr, ?_⟩
    simp only [List.mem_cons, List.not_mem_nil, or_false, not_or] at hm
    obtain ⟨h1, h2, k0, k1, k2, k3, k4, k5, k6, k7, k8, k9⟩ := hm
    refine ⟨h1, h2, fun c hc e => ?_⟩
    have hc' : c = 0 ∨ c = 1 ∨ c = 2 ∨ c = 3 ∨ c = 4 ∨ c = 5 ∨ c = 6 ∨ c = 7 ∨ c = 8 ∨ c = 9 := by omega
    rcases hc' with rfl | rfl | rfl | rfl | rfl | rfl | rfl | rfl | rfl | rfl
    · exact k0 e.symm
    · exact k1 e.symm
    · exact k2 e.symm
    · exact k3 e.symm
    · exact k4 e.symm
    · exact k5 e.symm
    · exact k6 e.symm
    · exact k7 e.symm
    · exact k8 e.symm
    · exact k9 e.symm)
  simp at this
def uF (t : mS) (r : Nat) : Nat → Nat → Bool → Bool
  | 0, _, b => b
  | d + 1, c, b => uF t r d (c + 1) (b || decide (mI t 5 c = nI r))
theorem uF_f {r : Nat} : ∀ d c b, uF t r d c b = false ↔ b = false ∧ ∀ e, c ≤ e → e < c + d → mI t 5 e ≠ nI r
  | 0, c, b => by
    unfold uF
    exact ⟨fun h => ⟨h, fun e h1 h2 => by omega⟩, fun h => h.1⟩
  | d + 1, c, b => by
    unfold uF
    rw [uF_f d (c + 1)]
    constructor
    · rintro ⟨h1, h2⟩
      have h3 := Bool.or_eq_false_iff.mp h1
      refine ⟨h3.1, fun e he1 he2 => ?_⟩
      by_cases hce : e = c
      · subst hce
        exact of_decide_eq_false h3.2
      · exact h2 e (by omega) (by omega)
    · rintro ⟨h1, h2⟩
      exact ⟨Bool.or_eq_false_iff.mpr ⟨h1, decide_eq_false (h2 c (by omega) (by omega))⟩, fun e he1 he2 => h2 e (by omega) (by omega)⟩
theorem c_free_in {r : Nat} (but fnd : Int32) : ∀ d c, c + d = 10 → ∀ b, xev 92 34 [some (xA (some m0)), some (xI but), some (xI fnd), some (xI (nI r)), some (xI (bI b)), some (xI (nI c))] [] (mW m0 t u) = xev 92 5 [some (xA (some m0)), some (xI but), some (xI (if fnd < 0 ∧ uF t r d c b = false then nI r else fnd)), some (xI (nI (r + 1))), none, none] [] (mW m0 t u)
  | 0, c, h, b => by
    obtain rfl : c = 10 := by omega
    rw [e_X8_free_34, b_X8_free_34, if_neg (by decide)]
    simp only [nI_1]
    by_cases hf : fnd < 0
    · rw [if_pos hf]
      cases b
      · rw [if_pos (show bI false = 0 from rfl), if_pos ⟨hf, rfl⟩]
      · rw [if_neg (show ¬ bI true = 0 by decide), if_neg (fun h => absurd h.2 (by unfold uF; decide))]
    · rw [if_neg hf, if_neg (fun h => hf h.1)]
  | d + 1, c, h, b => by
    have ih := c_free_in but fnd d (c + 1) (by omega)
    rw [e_X8_free_34, b_X8_free_34, if_pos (show nI c < 10 from nI_lt (b := 10) (by omega) (by decide))]
    simp only [nI_1, g_5, Option.bind_some, a_5 (show c < 10 by omega)]
    cases b
    · rw [if_pos (show bI false = 0 from rfl)]
      by_cases he : mI t 5 c = nI r
      · rw [if_pos he]
        have := ih true
        rw [show uF t r (d + 1) c false = uF t r d (c + 1) true by unfold uF; rw [decide_eq_true he]; cases d <;> rfl]
        exact this
      · rw [if_neg he]
        have := ih false
        rw [show uF t r (d + 1) c false = uF t r d (c + 1) false by conv => lhs; unfold uF; rw [decide_eq_false he]; rfl]
        exact this
    · rw [if_neg (show ¬ bI true = 0 by decide)]
      have := ih true
      rw [show uF t r (d + 1) c true = uF t r d (c + 1) true by conv => lhs; unfold uF; rfl]
      exact this
theorem c_free_step {r : Nat} (but fnd : Int32) (hr : r < 16) : xev 92 5 [some (xA (some m0)), some (xI but), some (xI fnd), some (xI (nI r)), none, none] [] (mW m0 t u) = xev 92 5 [some (xA (some m0)), some (xI but), some (xI (if fnd < 0 ∧ uF t r 10 0 (decide (nI r = mi t 6) || decide (nI r = but)) = false then nI r else fnd)), some (xI (nI (r + 1))), none, none] [] (mW m0 t u) := by
  have k := fun b => c_free_in (m0 := m0) (t := t) (u := u) (r := r) but fnd 10 0 rfl b
  conv => lhs; rw [e_X8_free_5, b_X8_free_5, if_pos (show nI r < 16 from nI_lt (b := 16) hr (by decide))]
  simp only [g_6, Option.bind_some]
  by_cases h1 : nI r = mi t 6
  · rw [if_pos h1, decide_eq_true h1]
    exact k true
  · rw [if_neg h1, decide_eq_false h1]
    by_cases h2 : nI r = but
    · rw [if_pos h2, decide_eq_true h2]
      exact k true
    · rw [if_neg h2, decide_eq_false h2]
      exact k false
theorem c_free_f (but : Int32) {q : Nat} (hq : q < 16) : ∀ d r, r + d = 16 → xev 92 5 [some (xA (some m0)), some (xI but), some (xI (nI q)), some (xI (nI r)), none, none] [] (mW m0 t u) = some (some (xI (nI q)), mW m0 t u)
  | 0, r, h => by
    obtain rfl : r = 16 := by omega
    rw [e_X8_free_5, b_X8_free_5, if_neg (by decide)]
  | d + 1, r, h => by
    rw [c_free_step but (nI q) (by omega), if_neg (fun h => nI_pos (show q < 2 ^ 31 by omega) h.1)]
    exact c_free_f but hq d (r + 1) (by omega)
theorem c_free_g (but : Int32) : ∀ d r, r + d = 16 → (∃ s, r ≤ s ∧ s < 16 ∧ unu t but s) → ∃ q, q < 16 ∧ unu t but q ∧ xev 92 5 [some (xA (some m0)), some (xI but), some (xI (-6)), some (xI (nI r)), none, none] [] (mW m0 t u) = some (some (xI (nI q)), mW m0 t u)
  | 0, r, h, ⟨s, h1, h2, _⟩ => by omega
  | d + 1, r, h, ⟨s, h1, h2, h3⟩ => by
    rw [c_free_step but (-6) (by omega)]
    by_cases hu : uF t r 10 0 (decide (nI r = mi t 6) || decide (nI r = but)) = false
    · rw [if_pos ⟨by decide, hu⟩]
      refine ⟨r, by omega, ?_, c_free_f but (by omega) d (r + 1) (by omega)⟩
      have := (uF_f _ _ _).mp hu
      have h4 := Bool.or_eq_false_iff.mp this.1
      exact ⟨of_decide_eq_false h4.1, of_decide_eq_false h4.2, fun c hc => this.2 c (by omega) (by omega)⟩
    · rw [if_neg (fun h => hu h.2)]
      refine c_free_g but d (r + 1) (by omega) ⟨s, ?_, h2, h3⟩
      by_cases hrs : r = s
      · subst hrs
        exact absurd ((uF_f _ _ _).mpr ⟨Bool.or_eq_false_iff.mpr ⟨decide_eq_false h3.1, decide_eq_false h3.2.1⟩, fun e _ he => h3.2.2 e (by omega)⟩) hu
      · omega
theorem c_free (but : Int32) : ∃ q, q < 16 ∧ unu t but q ∧ xev 92 0 [some (xA (some m0)), some (xI but), none, none, none, none] [] (mW m0 t u) = some (some (xI (nI q)), mW m0 t u) := by
  obtain ⟨s, h1, h2⟩ := unu_some t but
  obtain ⟨q, h3, h4, h5⟩ := c_free_g (m0 := m0) (t := t) (u := u) but 16 0 rfl ⟨s, by omega, h1, h2⟩
  refine ⟨q, h3, h4, ?_⟩
  rw [e_X8_free_0, b_X8_free_0]
  exact h5
end MR
end
section
/-! the reference's accesses -/
section MO
variable {m0 : Nat} {t : mS} {u : xW} {S : sS} {c k : Nat} {cell : Int32}
theorem wf_row {r : Nat} (hw : wf S) (hc : c < 10) (h : qC S c = .inl r) : ∃ x, qR S r = some x ∧ rok (qN S) x := by
  have := hw.1 c hc
  rw [h] at this
  exact this
theorem tok_c {N : Nat} {v : mC} (h : tok N v) : kn v < 12 ∧ v.1 = nI (kn v) := by
  obtain ⟨k, h1, h2, _⟩ := h
  have : kn v = k := by unfold kn; rw [h2, nI_clamp (by omega)]
  rw [this]
  exact ⟨h1, h2⟩
theorem kn_of {v : mC} {k : Nat} (h : v.1 = nI k) (hk : k < 12) : kn v = k := by unfold kn; rw [h, nI_clamp (by omega)]
theorem c_told {v : mC} {k : Nat} (hv : v.1 = nI k) (hk : k < 12) (hn : (k = 6 ∨ k = 7) → nR 20 v.2.2) (w : xW) : xev 101 0 [some (xI (nI k)), some (xJ v.2.1), none, some (xD v.2.2), none] [] w = some (some (xJ (cde v)), w) := by
  rw [e_X8_told_0, b_X8_told_0]
  unfold cde
  rw [hv]
  have e6 : (nI k = 6) ↔ k = 6 := nI_eq (b := 6) (by omega) (by decide)
  have e7 : (nI k = 7) ↔ k = 7 := nI_eq (b := 7) (by omega) (by decide)
  simp only [e6, e7]
  by_cases h6 : k = 6
  · rw [if_pos h6, if_pos h6, fl_b6 (hn (Or.inl h6))]
    rfl
  · rw [if_neg h6, if_neg h6]
    by_cases h7 : k = 7
    · rw [if_pos h7, if_pos h7, fl_b7 (hn (Or.inr h7))]
      rfl
    · rw [if_neg h7, if_neg h7]
theorem tok_n {N : Nat} {v : mC} (h : tok N v) : (kn v = 6 ∨ kn v = 7) → nR 20 v.2.2 := by
  intro hk
  obtain ⟨k, h1, h2, h3⟩ := h
  rw [kn_of h2 h1] at hk
  rcases h3 with ⟨h6, _⟩ | ⟨_, _, h0⟩ | ⟨h6, _⟩ | ⟨h6, _⟩ | ⟨h6, _⟩
  · omega
  · exact nR_mono h0 (by decide)
  · omega
  · omega
  · omega
theorem c_at {q : Nat} (h : inB cell 24) : (24 : Int32) * nI q + cell = nI (24 * q + cell.toNatClampNeg) := by
  conv => lhs; rw [inB_nI h]
  rw [show (24 : Int32) = nI 24 from rfl, pk_mul, nI_add]
theorem m_read0 (hR : Rm S t) (hw : wf S) (hc : c < 10) (hk : k < 8) : ∃ t', xev 108 0 [some (xA (some m0)), some (xI (nI c)), some (xI cell), some (xI (nI k)), none, none] [] (mW m0 t u) = some (some (xI (nI (rdA S c cell k).1)), mW m0 t' u) ∧ Rm (rdA S c cell k).2 t' ∧ ((rdA S c cell k).1 = 0 → mj t' 21 = (qS (rdA S c cell k).2).2.1 ∧ md t' 22 = (qS (rdA S c cell k).2).2.2) := by
  rw [e_X8_read0_0, b_X8_read0_0]
  simp only [mW_obj, Option.bind_some, c_firstS hR hw hc, xrI_e]
  cases hq : qC S c with
  | inr v =>
    rw [lenA_th hq, rdA_th hq]
    refine ⟨t, ?_, hR, fun h => ?_⟩
    · split
      · next h => exact absurd h (by split <;> decide)
      · rfl
    · exact absurd h (by simp only; split <;> decide)
  | inl r =>
    obtain ⟨x, q, hx, q16, e5, s0, s1, s2⟩ := hR.1.1 c r hc hq
    obtain ⟨y, hy, rk⟩ := wf_row hw hc hq
    obtain rfl : x = y := Option.some.inj (hx.symm.trans hy)
    obtain ⟨k13, n24, ck⟩ := rk
    rw [lenA_row hq, rdA_row hq hx]
    rw [if_pos (show nI 0 = 0 from rfl)]
    have h7 : ((7 : Int32) < nI x.1) ↔ 7 < x.1 := nI_ltI (a := 7) (by decide) (by omega)
    have hi : ∀ w, inB cell x.2.1 → xev 88 0 [some (xJ cell.toInt64), none, some (xJ 0), none, some (xJ (nI x.2.1 - 1).toInt64), none] [] w = some (some (xI 1), w) := fun w h => c_inB_t (by omega) h w
    have hj : ∀ w, ¬ inB cell x.2.1 → xev 88 0 [some (xJ cell.toInt64), none, some (xJ 0), none, some (xJ (nI x.2.1 - 1).toInt64), none] [] w = some (some (xI 0), w) := fun w h => c_inB_f (by omega) h w
    simp only [g_0, g_1, g_2, g_3, g_4, g_5, g_6, g_7, g_8, g_9, g_10, g_11, g_12, g_13, g_14, g_15, g_16, g_17, g_18, g_19, g_20, g_21, g_22, g_23, g_24, g_25, g_26, g_27, g_28, g_29, g_30, g_31, g_32, g_33, Option.bind_some, mW_obj, xrI_e, xrJ_e, xrD_e, xrA_e, xrV_e, a_5 hc, e5, a_0 q16, s0, a_1 q16, s1, h7]
    by_cases h8 : 7 < x.1
    · rw [if_pos h8, if_pos h8]
      exact ⟨t, rfl, hR, fun h => absurd h (by decide)⟩
    · rw [if_neg h8, if_neg h8]
      by_cases hb : inB cell x.2.1
      · obtain ⟨tk, _, tt⟩ := ck _ hb.2
        have tt := tt (by omega)
        have hat := s2 _ hb.2
        have b24 : inB cell 24 := ⟨hb.1, by omega⟩
        have ha : 24 * q + cell.toNatClampNeg < 384 := by have := b24.2; omega
        rw [hi _ hb, if_pos hb]
        simp only [Option.bind_some, xrI_e]
        rw [if_neg (show ¬ (1 : Int32) = 0 by decide)]
        simp only [g_0, g_1, g_2, g_3, g_4, g_5, g_6, g_7, g_8, g_9, g_10, g_11, g_12, g_13, g_14, g_15, g_16, g_17, g_18, g_19, g_20, g_21, g_22, g_23, g_24, g_25, g_26, g_27, g_28, g_29, g_30, g_31, g_32, g_33, Option.bind_some, mW_obj, xrI_e, xrJ_e, xrD_e, xrA_e, xrV_e, a_0 q16, s0, c_widens (show x.1 < 8 by omega) hk]
        cases hf : fitB k x.1 with
        | false =>
          rw [if_pos (show bI false = 0 from rfl), if_neg (by decide)]
          exact ⟨t, rfl, hR, fun h => absurd h (by decide)⟩
        | true =>
          rw [if_neg (show ¬ bI true = 0 by decide), if_pos rfl]
          have hm := wid_m tk tt (by omega) hk hf
          have ho := wid_ok tk tt (by omega) hk hf
          have h6 : (nI k < 6) ↔ k < 6 := nI_ltI (b := 6) (by omega) (by decide)
          simp only [h6, c_at b24]
          have eJ : mJ t 3 (24 * q + cell.toNatClampNeg) = (x.2.2 cell.toNatClampNeg).2.1 := congrArg (fun z => z.2.1) hat
          have eD : mD t 4 (24 * q + cell.toNatClampNeg) = (x.2.2 cell.toNatClampNeg).2.2 := congrArg (fun z => z.2.2) hat
          have hcd := fun w => c_told (v := wid (x.2.2 cell.toNatClampNeg) k) ho.2 (by omega) (fun h => tok_n ho.1 (by rw [kn_of ho.2 (by omega)]; exact h)) w
          rw [hm] at hcd
          refine ⟨sj (sd (sj t 21 (if k < 6 then (x.2.2 cell.toNatClampNeg).2.1 else 0)) 22 (mwd x.1 k (x.2.2 cell.toNatClampNeg).2.1 (x.2.2 cell.toNatClampNeg).2.2)) 10 (cde (wid (x.2.2 cell.toNatClampNeg) k)), ?_, ⟨hR.1, hR.2.1, rfl, hR.2.2.2⟩, fun _ => ?_⟩
          · by_cases k6 : k < 6
            · simp only [if_pos k6] at hcd ⊢
              simp only [g_0, g_1, g_2, g_3, g_4, g_5, g_6, g_7, g_8, g_9, g_10, g_11, g_12, g_13, g_14, g_15, g_16, g_17, g_18, g_19, g_20, g_21, g_22, g_23, g_24, g_25, g_26, g_27, g_28, g_29, g_30, g_31, g_32, g_33, Option.bind_some, mW_obj, xrI_e, xrJ_e, xrD_e, xrA_e, xrV_e, a_3 ha, a_4 ha, a_0 q16, p_21, p_22, p_10, eJ, eD, s0, c_widened (show x.1 < 12 by omega) hk]
              sorry
            · simp only [if_neg k6] at hcd ⊢
              simp only [g_0, g_1, g_2, g_3, g_4, g_5, g_6, g_7, g_8, g_9, g_10, g_11, g_12, g_13, g_14, g_15, g_16, g_17, g_18, g_19, g_20, g_21, g_22, g_23, g_24, g_25, g_26, g_27, g_28, g_29, g_30, g_31, g_32, g_33, Option.bind_some, mW_obj, xrI_e, xrJ_e, xrD_e, xrA_e, xrV_e, a_3 ha, a_4 ha, a_0 q16, p_21, p_22, p_10, eJ, eD, s0, c_widened (show x.1 < 12 by omega) hk]
              sorry
          · simp only
            rw [hm]
            exact ⟨rfl, rfl⟩
      · rw [hj _ hb, if_neg hb]
        exact ⟨t, rfl, hR, fun h => absurd h (by decide)⟩
end MO
end
