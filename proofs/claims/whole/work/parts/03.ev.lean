/-! the evaluator: the bytecode over an abstract heap (positions, not addresses) -/
/-- the heap: ints by cell and slot; the one reference field that moves -/
abbrev zH : Type := (Nat → Nat → Int32) × Nat
/-- a method: class, name, code, locals, answer, parameters, rank, recursion -/
abbrev zM : Type := Nat × MethodName × ByteArray × Nat × Option FieldType × Nat × Nat × Nat
abbrev zL : Type := List (Option Value)
/-- the phase: how many cells there are; references written into fields and arrays -/
abbrev zP : Type := Nat × List (Nat × Nat × Nat)
/-- the script -/
abbrev zX : Type := Nat × (Nat → Int32)
abbrev zS : Type := Nat × zL × List Value × zP × zH
abbrev zR : Type := Option Value × zP × zH
def zo (k : zM) : Nat := k.1
def zn (k : zM) : MethodName := k.2.1
def zb (k : zM) : ByteArray := k.2.2.1
def zml (k : zM) : Nat := k.2.2.2.1
def zrt (k : zM) : Option FieldType := k.2.2.2.2.1
def znp (k : zM) : Nat := k.2.2.2.2.2.1
def zSH : List (Nat × Nat) := [(5, 10), (2, 9), (0, 6), (0, 6), (0, 6), (0, 6), (0, 6), (2, 9), (0, 6), (0, 6), (0, 6), (0, 6), (0, 6), (1, 8), (2, 9), (0, 6), (0, 6), (0, 6), (0, 6), (0, 6), (3, 3), (1, 8), (2, 9), (0, 6), (0, 6), (0, 6), (0, 6), (0, 6), (2, 9), (0, 6), (0, 6), (0, 6), (0, 6), (0, 6), (2, 9), (0, 6), (0, 6), (0, 6), (0, 6), (0, 6), (2, 9), (0, 6), (0, 6), (0, 6), (0, 6), (0, 6), (2, 9), (0, 6), (0, 6), (0, 6), (0, 6), (0, 6), (2, 9), (0, 6), (0, 6), (0, 6), (0, 6), (0, 6), (2, 9), (0, 6), (0, 6), (0, 6), (0, 6), (0, 6), (2, 9), (0, 6), (0, 6), (0, 6), (0, 6), (0, 6), (4, 2), (0, 96), (0, 12), (0, 7), (2, 9), (0, 6), (0, 6), (0, 6), (0, 6), (0, 6), (2, 9), (0, 6), (0, 6), (0, 6), (0, 6), (0, 6), (2, 9), (0, 6), (0, 6), (0, 6), (0, 6), (0, 6), (2, 9), (0, 6), (0, 6), (0, 6), (0, 6), (0, 6), (2, 9), (0, 6), (0, 6), (0, 6), (0, 6), (0, 6), (2, 9), (0, 6), (0, 6), (0, 6), (0, 6), (0, 6), (2, 9), (0, 6), (0, 6), (0, 6), (0, 6), (0, 6), (2, 9), (0, 6), (0, 6), (0, 6), (0, 6), (0, 6), (6, 35), (0, 7), (0, 7), (0, 7), (0, 7), (0, 7), (0, 7), (0, 96), (0, 49), (0, 49), (0, 196), (0, 37), (0, 37), (0, 296), (0, 37), (0, 7), (0, 12), (0, 20)]
/-- what lies at a position: (0, n) an int array, (1, n) a row of Hills, (2 + c, n) an object of class c -/
def zcl (cn a : Nat) : Nat × Nat := if a ≤ cn then (match a with | 0 => (9, 0) | b + 1 => zSH.getD b (9, 0)) else (9, 0)
def zlk : List (Nat × Nat × Nat) → Nat → Nat → Nat
  | [], _, _ => 0
  | q :: r, b, i => if q.1 = b ∧ q.2.1 = i then q.2.2 else zlk r b i
def zrv (v : Nat) : Value := match v with | 0 => .null | n + 1 => .ref (n + 1)
def zup (I : Nat → Nat → Int32) (a j : Nat) (v : Int32) : Nat → Nat → Int32 := fun b i => if b = a ∧ i = j then v else I b i
def zclr (I : Nat → Nat → Int32) (a : Nat) : Nat → Nat → Int32 := fun b i => if b = a then 0 else I b i
def zin (i : Int32) (n : Nat) : Bool := decide (¬ i < 0) && decide (i.toNatClampNeg < n)
def zkl (ls : zL) (i : Nat) : zL := match i with
  | 0 => ls
  | j + 1 => match ls[j]? with
    | some (some v) => if v.category = 2 then ls.set j none else ls
    | _ => ls
def zput1 (ls : zL) (i : Nat) (v : Value) : zL := (zkl ls i).set i (some v)
def zput2 (ls : zL) (i : Nat) (v : Value) : zL := ((zkl ls i).set i (some v)).set (i + 1) none
def zla (as : List Value) : zL := as.flatMap fun v => if v.category = 2 then [some v, none] else [some v]
def zini (k : zM) (as : List Value) : zL := zla as ++ List.replicate (zml k - (zla as).length) none
def zcat (st : List Value) : Nat := (st.map fun v => v.category).sum
/-- a field by its index in a class's pool: class, slot, kind (0 int, 1 boolean, 2 reference, 3 the moving reference) -/
def zfdT : List (Nat × Nat × Nat × Nat × Nat) := [(0, 9, 0, 0, 2), (0, 15, 0, 1, 2), (0, 18, 0, 2, 2), (0, 21, 0, 3, 2), (0, 24, 0, 4, 2), (0, 27, 0, 5, 0), (0, 31, 0, 6, 0), (0, 34, 0, 7, 0), (0, 37, 0, 8, 0), (1, 11, 1, 0, 2), (1, 17, 1, 1, 0), (1, 21, 1, 2, 0), (2, 9, 2, 0, 2), (2, 15, 2, 1, 0), (2, 67, 0, 5, 0), (3, 10, 3, 0, 2), (3, 16, 3, 1, 2), (3, 19, 3, 2, 2), (3, 23, 3, 3, 2), (3, 26, 3, 4, 1), (3, 33, 3, 5, 2), (3, 40, 3, 6, 2), (3, 44, 3, 7, 2), (3, 48, 3, 8, 0), (3, 52, 3, 9, 2), (3, 59, 2, 1, 0), (3, 112, 0, 5, 0), (3, 146, 1, 1, 0), (3, 174, 0, 8, 0), (3, 245, 0, 7, 0), (3, 266, 0, 6, 0), (4, 7, 4, 1, 2), (4, 13, 4, 2, 2), (4, 16, 4, 3, 2), (4, 19, 4, 4, 2), (4, 22, 4, 5, 2), (4, 25, 4, 8, 2), (4, 28, 4, 11, 2), (4, 31, 4, 16, 2), (4, 34, 4, 17, 2), (4, 37, 4, 18, 2), (4, 40, 4, 19, 2), (4, 43, 4, 20, 2), (4, 46, 4, 25, 2), (4, 49, 4, 26, 2), (4, 52, 4, 28, 2), (4, 55, 4, 31, 2), (4, 58, 4, 33, 2), (4, 61, 4, 7, 0), (4, 65, 4, 0, 0), (4, 100, 4, 9, 0), (4, 107, 4, 6, 0), (4, 110, 4, 10, 0), (4, 126, 4, 12, 0), (4, 129, 4, 13, 0), (4, 132, 4, 14, 1), (4, 147, 4, 15, 0), (4, 177, 4, 27, 0), (4, 180, 4, 23, 1), (4, 183, 4, 24, 3), (4, 186, 4, 22, 0), (4, 196, 4, 21, 1), (4, 225, 4, 30, 0), (4, 228, 4, 29, 0), (4, 237, 4, 32, 0), (4, 266, 4, 34, 0)]
def zfd0 : List (Nat × Nat × Nat × Nat × Nat) → Nat → Nat → Nat × Nat × Nat
  | [], _, _ => (9, 0, 7)
  | q :: r, o, ix => if q.1 = o ∧ q.2.1 = ix then q.2.2 else zfd0 r o ix
def zfd (o ix : Nat) : Nat × Nat × Nat := zfd0 zfdT o ix
def zcoT : List (Nat × Nat × Int32) := [(6, 265, 1431655765), (6, 266, 858993459), (6, 267, 252645135), (3, 272, 1103515245), (3, 273, 2147483647), (3, 274, 65536), (4, 269, 1103515245), (4, 270, 2147483647), (4, 271, 65536)]
def zclT : List (Nat × Nat × Int64) := [(3, 223, 4000000000000000000), (4, 140, 48), (4, 142, 57), (4, 160, 60), (4, 78, 5), (4, 199, 6), (4, 76, 35), (4, 207, 3), (4, 257, 4000000000000000000), (4, 275, 11), (4, 277, 16)]
def zco0 {α : Type} : List (Nat × Nat × α) → Nat → Nat → Option α
  | [], _, _ => none
  | q :: r, o, ix => if q.1 = o ∧ q.2.1 = ix then some q.2.2 else zco0 r o ix
/-- new, anewarray: the class by its index -/
def zknT : List (Nat × Nat × Nat) := [(5, 7, 3), (3, 7, 0), (3, 30, 1), (1, 9, 0), (3, 37, 2), (5, 10, 4)]
/-- what is built in: 1 Object.<init>, 2 Math.min, 3 Math.abs -/
def zbiT : List (Nat × Nat × Nat) := [(3, 1, 1), (0, 3, 1), (1, 3, 1), (2, 3, 1), (0, 103, 2), (1, 33, 2), (0, 65, 3), (4, 1, 1)]
def zNf : Nat → Nat := fun c => match c with | 0 => 9 | 1 => 3 | 2 => 2 | 3 => 10 | 4 => 35 | _ => 0
def m_X_init : zM := (3, ⟨"SeenFromBehind", "<init>", "()V"⟩, prog_1_method_1_code, 2, none, 0, 2, 0)
def m_H_init : zM := (0, ⟨"SeenFromBehind$Hill", "<init>", "()V"⟩, prog_2_method_1_code, 1, none, 0, 0, 0)
def m_P_init : zM := (1, ⟨"SeenFromBehind$Past", "<init>", "()V"⟩, prog_3_method_1_code, 2, none, 0, 1, 0)
def m_T_init : zM := (2, ⟨"SeenFromBehind$Text", "<init>", "()V"⟩, prog_4_method_1_code, 1, none, 0, 0, 0)
def m_X_feed : zM := (3, ⟨"SeenFromBehind", "feed", "(I)I"⟩, prog_1_method_2_code, 2, (some .int), 1, 2, 0)
def m_X_refuse : zM := (3, ⟨"SeenFromBehind", "refuse", "(I)I"⟩, prog_1_method_44_code, 2, (some .int), 1, 1, 0)
def m_X_at : zM := (3, ⟨"SeenFromBehind", "at", "([II)I"⟩, prog_1_method_57_code, 2, (some .int), 2, 0, 0)
def m_X_put : zM := (3, ⟨"SeenFromBehind", "put", "([III)V"⟩, prog_1_method_58_code, 3, none, 3, 0, 0)
def m_T_append : zM := (2, ⟨"SeenFromBehind$Text", "append", "(I)I"⟩, prog_4_method_2_code, 2, (some .int), 1, 1, 0)
def m_X_hill : zM := (3, ⟨"SeenFromBehind", "hill", "()I"⟩, prog_1_method_3_code, 4, (some .int), 0, 7, 0)
def m_T_wrongPlace : zM := (2, ⟨"SeenFromBehind$Text", "wrongPlace", "()I"⟩, prog_4_method_4_code, 5, (some .int), 0, 1, 0)
def m_T_digitsBehind : zM := (2, ⟨"SeenFromBehind$Text", "digitsBehind", "(I)I"⟩, prog_4_method_5_code, 1, (some .int), 1, 0, 0)
def m_H_become : zM := (0, ⟨"SeenFromBehind$Hill", "become", "(LSeenFromBehind$Hill;)V"⟩, prog_2_method_2_code, 3, none, 1, 1, 0)
def m_T_beginsStatement : zM := (2, ⟨"SeenFromBehind$Text", "beginsStatement", "(I)Z"⟩, prog_4_method_6_code, 2, (some .boolean), 1, 1, 0)
def m_T_comesTo : zM := (2, ⟨"SeenFromBehind$Text", "comesTo", "(LSeenFromBehind$Hill;I)Z"⟩, prog_4_method_7_code, 5, (some .boolean), 2, 6, 0)
def m_T_digit : zM := (2, ⟨"SeenFromBehind$Text", "digit", "(I)I"⟩, prog_4_method_11_code, 2, (some .int), 1, 1, 0)
def m_T_number : zM := (2, ⟨"SeenFromBehind$Text", "number", "(I)I"⟩, prog_4_method_12_code, 2, (some .int), 1, 2, 0)
def m_T_joins : zM := (2, ⟨"SeenFromBehind$Text", "joins", "(LSeenFromBehind$Hill;IIII)Z"⟩, prog_4_method_8_code, 5, (some .boolean), 5, 2, 0)
def m_X_isKind : zM := (3, ⟨"SeenFromBehind", "isKind", "(I)Z"⟩, prog_1_method_60_code, 1, (some .boolean), 1, 0, 0)
def m_X_isCell : zM := (3, ⟨"SeenFromBehind", "isCell", "(I)Z"⟩, prog_1_method_61_code, 1, (some .boolean), 1, 0, 0)
def m_X_isWay : zM := (3, ⟨"SeenFromBehind", "isWay", "(I)Z"⟩, prog_1_method_62_code, 1, (some .boolean), 1, 0, 0)
def m_H_isFree : zM := (0, ⟨"SeenFromBehind$Hill", "isFree", "(I)Z"⟩, prog_2_method_19_code, 2, (some .boolean), 1, 1, 0)
def m_H_whoIsAt : zM := (0, ⟨"SeenFromBehind$Hill", "whoIsAt", "(I)I"⟩, prog_2_method_18_code, 3, (some .int), 1, 0, 0)
def m_H_join : zM := (0, ⟨"SeenFromBehind$Hill", "join", "(IIII)I"⟩, prog_2_method_16_code, 6, (some .int), 4, 1, 0)
def m_T_facesSo : zM := (2, ⟨"SeenFromBehind$Text", "facesSo", "(LSeenFromBehind$Hill;II)Z"⟩, prog_4_method_9_code, 3, (some .boolean), 3, 2, 0)
def m_H_has : zM := (0, ⟨"SeenFromBehind$Hill", "has", "(I)Z"⟩, prog_2_method_3_code, 2, (some .boolean), 1, 0, 0)
def m_H_face : zM := (0, ⟨"SeenFromBehind$Hill", "face", "(II)V"⟩, prog_2_method_15_code, 3, none, 2, 1, 0)
def m_T_changesCell : zM := (2, ⟨"SeenFromBehind$Text", "changesCell", "(LSeenFromBehind$Hill;II)Z"⟩, prog_4_method_10_code, 3, (some .boolean), 3, 2, 0)
def m_H_place : zM := (0, ⟨"SeenFromBehind$Hill", "place", "(II)V"⟩, prog_2_method_14_code, 3, none, 2, 1, 0)
def m_H_hasRoomFor : zM := (0, ⟨"SeenFromBehind$Hill", "hasRoomFor", "(I)Z"⟩, prog_2_method_31_code, 2, (some .boolean), 1, 0, 0)
def m_H_pass : zM := (0, ⟨"SeenFromBehind$Hill", "pass", "(I)V"⟩, prog_2_method_32_code, 3, none, 1, 5, 0)
def m_H_nightWithout : zM := (0, ⟨"SeenFromBehind$Hill", "nightWithout", "(I)V"⟩, prog_2_method_33_code, 4, none, 1, 4, 0)
def m_H_inLens : zM := (0, ⟨"SeenFromBehind$Hill", "inLens", "(I)I"⟩, prog_2_method_24_code, 2, (some .int), 1, 2, 0)
def m_X_turned : zM := (3, ⟨"SeenFromBehind", "turned", "(II)I"⟩, prog_1_method_65_code, 2, (some .int), 2, 0, 0)
def m_H_depthOf : zM := (0, ⟨"SeenFromBehind$Hill", "depthOf", "(I)I"⟩, prog_2_method_11_code, 2, (some .int), 1, 1, 0)
def m_X_depth : zM := (3, ⟨"SeenFromBehind", "depth", "(II)I"⟩, prog_1_method_68_code, 4, (some .int), 2, 0, 0)
def m_H_nextTo : zM := (0, ⟨"SeenFromBehind$Hill", "nextTo", "(III)I"⟩, prog_2_method_22_code, 7, (some .int), 3, 1, 0)
def m_X_cellBeside : zM := (3, ⟨"SeenFromBehind", "cellBeside", "(II)I"⟩, prog_1_method_66_code, 3, (some .int), 2, 0, 0)
def m_X_bitOf : zM := (3, ⟨"SeenFromBehind", "bitOf", "(I)I"⟩, prog_1_method_59_code, 1, (some .int), 1, 0, 0)
def m_H_stirs : zM := (0, ⟨"SeenFromBehind$Hill", "stirs", "(II)Z"⟩, prog_2_method_34_code, 3, (some .boolean), 2, 3, 0)
def m_H_ahead : zM := (0, ⟨"SeenFromBehind$Hill", "ahead", "(I)I"⟩, prog_2_method_23_code, 2, (some .int), 1, 2, 0)
def m_H_reachOf : zM := (0, ⟨"SeenFromBehind$Hill", "reachOf", "(I)I"⟩, prog_2_method_10_code, 2, (some .int), 1, 1, 0)
def m_X_reach : zM := (3, ⟨"SeenFromBehind", "reach", "(II)I"⟩, prog_1_method_67_code, 4, (some .int), 2, 0, 0)
def m_H_turnsBy : zM := (0, ⟨"SeenFromBehind$Hill", "turnsBy", "(II)Z"⟩, prog_2_method_35_code, 3, (some .boolean), 2, 1, 0)
def m_H_stepsTo : zM := (0, ⟨"SeenFromBehind$Hill", "stepsTo", "(II)Z"⟩, prog_2_method_36_code, 3, (some .boolean), 2, 2, 0)
def m_T_forget : zM := (2, ⟨"SeenFromBehind$Text", "forget", "()V"⟩, prog_4_method_3_code, 1, none, 0, 0, 0)
def m_P_forget : zM := (1, ⟨"SeenFromBehind$Past", "forget", "()V"⟩, prog_3_method_2_code, 1, none, 0, 0, 0)
def m_X_personOf : zM := (3, ⟨"SeenFromBehind", "personOf", "(II)I"⟩, prog_1_method_4_code, 3, (some .int), 2, 2, 0)
def m_H_kindOf : zM := (0, ⟨"SeenFromBehind$Hill", "kindOf", "(I)I"⟩, prog_2_method_5_code, 2, (some .int), 1, 1, 0)
def m_H_figureOf : zM := (0, ⟨"SeenFromBehind$Hill", "figureOf", "(I)I"⟩, prog_2_method_6_code, 2, (some .int), 1, 1, 0)
def m_H_cellOf : zM := (0, ⟨"SeenFromBehind$Hill", "cellOf", "(I)I"⟩, prog_2_method_7_code, 2, (some .int), 1, 1, 0)
def m_H_facesOf : zM := (0, ⟨"SeenFromBehind$Hill", "facesOf", "(I)I"⟩, prog_2_method_8_code, 2, (some .int), 1, 1, 0)
def m_H_startsOf : zM := (0, ⟨"SeenFromBehind$Hill", "startsOf", "(I)I"⟩, prog_2_method_9_code, 2, (some .int), 1, 1, 0)
def m_X_person : zM := (3, ⟨"SeenFromBehind", "person", "(IIII)I"⟩, prog_1_method_5_code, 5, (some .int), 4, 2, 0)
def m_X_turns : zM := (3, ⟨"SeenFromBehind", "turns", "(II)I"⟩, prog_1_method_6_code, 4, (some .int), 2, 3, 0)
def m_P_keep : zM := (1, ⟨"SeenFromBehind$Past", "keep", "(LSeenFromBehind$Hill;)V"⟩, prog_3_method_3_code, 3, none, 1, 2, 0)
def m_P_placeAt : zM := (1, ⟨"SeenFromBehind$Past", "placeAt", "(I)LSeenFromBehind$Hill;"⟩, prog_3_method_5_code, 2, (some (.object "SeenFromBehind$Hill")), 1, 0, 0)
def m_X_stands : zM := (3, ⟨"SeenFromBehind", "stands", "(II)I"⟩, prog_1_method_7_code, 4, (some .int), 2, 3, 0)
def m_X_nights : zM := (3, ⟨"SeenFromBehind", "nights", "(I)I"⟩, prog_1_method_8_code, 2, (some .int), 1, 6, 0)
def m_H_startsTogether : zM := (0, ⟨"SeenFromBehind$Hill", "startsTogether", "()I"⟩, prog_2_method_17_code, 3, (some .int), 0, 1, 0)
def m_X_back : zM := (3, ⟨"SeenFromBehind", "back", "()I"⟩, prog_1_method_9_code, 1, (some .int), 0, 2, 0)
def m_P_giveBack : zM := (1, ⟨"SeenFromBehind$Past", "giveBack", "()LSeenFromBehind$Hill;"⟩, prog_3_method_4_code, 1, (some (.object "SeenFromBehind$Hill")), 0, 1, 0)
def m_X_behind : zM := (3, ⟨"SeenFromBehind", "behind", "(III)I"⟩, prog_1_method_10_code, 5, (some .int), 3, 6, 0)
def m_X_wrongNights : zM := (3, ⟨"SeenFromBehind", "wrongNights", "(II)I"⟩, prog_1_method_46_code, 3, (some .int), 2, 1, 0)
def m_X_lookAhead : zM := (3, ⟨"SeenFromBehind", "lookAhead", "(I)V"⟩, prog_1_method_48_code, 3, none, 1, 5, 0)
def m_H_watchers : zM := (0, ⟨"SeenFromBehind$Hill", "watchers", "(I)I"⟩, prog_2_method_25_code, 4, (some .int), 1, 3, 0)
def m_X_allStarts : zM := (3, ⟨"SeenFromBehind", "allStarts", "(I)I"⟩, prog_1_method_11_code, 2, (some .int), 1, 6, 0)
def m_X_first : zM := (3, ⟨"SeenFromBehind", "first", "(II)I"⟩, prog_1_method_12_code, 6, (some .int), 2, 5, 0)
def m_X_wrongWhat : zM := (3, ⟨"SeenFromBehind", "wrongWhat", "(III)I"⟩, prog_1_method_45_code, 4, (some .int), 3, 1, 0)
def m_X_still : zM := (3, ⟨"SeenFromBehind", "still", "()I"⟩, prog_1_method_13_code, 2, (some .int), 0, 5, 0)
def m_X_unseen : zM := (3, ⟨"SeenFromBehind", "unseen", "()I"⟩, prog_1_method_14_code, 3, (some .int), 0, 3, 0)
def m_H_everybody : zM := (0, ⟨"SeenFromBehind$Hill", "everybody", "()I"⟩, prog_2_method_4_code, 1, (some .int), 0, 1, 0)
def m_X_chain : zM := (3, ⟨"SeenFromBehind", "chain", "(II)I"⟩, prog_1_method_15_code, 4, (some .int), 2, 4, 0)
def m_H_chainOf : zM := (0, ⟨"SeenFromBehind$Hill", "chainOf", "(II)I"⟩, prog_2_method_30_code, 8, (some .int), 2, 3, 0)
def m_X_deepest : zM := (3, ⟨"SeenFromBehind", "deepest", "()I"⟩, prog_1_method_16_code, 5, (some .int), 0, 4, 0)
def m_X_knows : zM := (3, ⟨"SeenFromBehind", "knows", "(II)I"⟩, prog_1_method_17_code, 5, (some .int), 2, 4, 0)
def m_H_seenBy : zM := (0, ⟨"SeenFromBehind$Hill", "seenBy", "(I)I"⟩, prog_2_method_27_code, 4, (some .int), 1, 3, 0)
def m_X_safe : zM := (3, ⟨"SeenFromBehind", "safe", "(II)I"⟩, prog_1_method_18_code, 7, (some .int), 2, 3, 0)
def m_X_alone : zM := (3, ⟨"SeenFromBehind", "alone", "(II)I"⟩, prog_1_method_19_code, 7, (some .int), 2, 4, 0)
def m_X_turnAll : zM := (3, ⟨"SeenFromBehind", "turnAll", "()I"⟩, prog_1_method_20_code, 3, (some .int), 0, 3, 0)
def m_H_seesAllWays : zM := (0, ⟨"SeenFromBehind$Hill", "seesAllWays", "(I)Z"⟩, prog_2_method_28_code, 3, (some .boolean), 1, 2, 0)
def m_X_post : zM := (3, ⟨"SeenFromBehind", "post", "(I)I"⟩, prog_1_method_21_code, 5, (some .int), 1, 4, 0)
def m_H_facesToSeeUnseen : zM := (0, ⟨"SeenFromBehind$Hill", "facesToSeeUnseen", "(I)I"⟩, prog_2_method_29_code, 3, (some .int), 1, 3, 0)
def m_X_which : zM := (3, ⟨"SeenFromBehind", "which", "(II)I"⟩, prog_1_method_22_code, 7, (some .int), 2, 6, 0)
def m_H_beOfKind : zM := (0, ⟨"SeenFromBehind$Hill", "beOfKind", "(II)V"⟩, prog_2_method_12_code, 3, none, 2, 1, 0)
def m_H_beOfFigure : zM := (0, ⟨"SeenFromBehind$Hill", "beOfFigure", "(II)V"⟩, prog_2_method_13_code, 3, none, 2, 1, 0)
def m_X_turnsAsTold : zM := (3, ⟨"SeenFromBehind", "turnsAsTold", "(I)Z"⟩, prog_1_method_49_code, 3, (some .boolean), 1, 5, 0)
def m_X_bestStep : zM := (3, ⟨"SeenFromBehind", "bestStep", "(I)I"⟩, prog_1_method_23_code, 7, (some .int), 1, 4, 0)
def m_H_cellOfStep : zM := (0, ⟨"SeenFromBehind$Hill", "cellOfStep", "(II)I"⟩, prog_2_method_21_code, 4, (some .int), 2, 2, 0)
def m_J_bitCount : zM := (6, ⟨"java/lang/Integer", "bitCount", "(I)I"⟩, prog_7_method_49_code, 1, (some .int), 1, 0, 0)
def m_X_two : zM := (3, ⟨"SeenFromBehind", "two", "(II)I"⟩, prog_1_method_24_code, 7, (some .int), 2, 4, 0)
def m_X_areTwo : zM := (3, ⟨"SeenFromBehind", "areTwo", "(II)Z"⟩, prog_1_method_47_code, 3, (some .boolean), 2, 1, 0)
def m_X_stepsSeenByFaces : zM := (3, ⟨"SeenFromBehind", "stepsSeenByFaces", "(II)I"⟩, prog_1_method_50_code, 8, (some .int), 2, 3, 0)
def m_X_pairBit : zM := (3, ⟨"SeenFromBehind", "pairBit", "(II)I"⟩, prog_1_method_52_code, 2, (some .int), 2, 1, 0)
def m_X_neitherHasBetter : zM := (3, ⟨"SeenFromBehind", "neitherHasBetter", "(IIII)Z"⟩, prog_1_method_51_code, 5, (some .boolean), 4, 2, 0)
def m_X_slept : zM := (3, ⟨"SeenFromBehind", "slept", "(IIIII)J"⟩, prog_1_method_25_code, 12, (some .long), 5, 14, 0)
def m_X_waysToFace : zM := (3, ⟨"SeenFromBehind", "waysToFace", "(LSeenFromBehind$Hill;[LSeenFromBehind$Hill;IIII)J"⟩, prog_1_method_53_code, 10, (some .long), 6, 5, 1)
def m_X_commonDivisor : zM := (3, ⟨"SeenFromBehind", "commonDivisor", "(JJ)J"⟩, prog_1_method_54_code, 11, (some .long), 2, 0, 0)
def m_X_busiest : zM := (3, ⟨"SeenFromBehind", "busiest", "(I)I"⟩, prog_1_method_26_code, 6, (some .int), 1, 4, 0)
def m_X_twos : zM := (3, ⟨"SeenFromBehind", "twos", "(I)I"⟩, prog_1_method_27_code, 6, (some .int), 1, 3, 0)
def m_X_nearest : zM := (3, ⟨"SeenFromBehind", "nearest", "(I)I"⟩, prog_1_method_28_code, 7, (some .int), 1, 2, 0)
def m_H_cellsApart : zM := (0, ⟨"SeenFromBehind$Hill", "cellsApart", "(II)I"⟩, prog_2_method_20_code, 5, (some .int), 2, 1, 0)
def m_X_rowOf : zM := (3, ⟨"SeenFromBehind", "rowOf", "(I)I"⟩, prog_1_method_63_code, 1, (some .int), 1, 0, 0)
def m_X_columnOf : zM := (3, ⟨"SeenFromBehind", "columnOf", "(I)I"⟩, prog_1_method_64_code, 1, (some .int), 1, 0, 0)
def m_X_lines : zM := (3, ⟨"SeenFromBehind", "lines", "()I"⟩, prog_1_method_29_code, 6, (some .int), 0, 2, 0)
def m_X_hidden : zM := (3, ⟨"SeenFromBehind", "hidden", "()I"⟩, prog_1_method_30_code, 3, (some .int), 0, 2, 0)
def m_X_longest : zM := (3, ⟨"SeenFromBehind", "longest", "()I"⟩, prog_1_method_31_code, 4, (some .int), 0, 2, 0)
def m_X_walks : zM := (3, ⟨"SeenFromBehind", "walks", "(III)I"⟩, prog_1_method_32_code, 10, (some .int), 3, 5, 0)
def m_X_meets : zM := (3, ⟨"SeenFromBehind", "meets", "(II)I"⟩, prog_1_method_33_code, 4, (some .int), 2, 5, 0)
def m_X_leave : zM := (3, ⟨"SeenFromBehind", "leave", "(II)I"⟩, prog_1_method_34_code, 3, (some .int), 2, 4, 0)
def m_X_most : zM := (3, ⟨"SeenFromBehind", "most", "(II)I"⟩, prog_1_method_35_code, 8, (some .int), 2, 4, 0)
def m_X_quiet : zM := (3, ⟨"SeenFromBehind", "quiet", "(I)I"⟩, prog_1_method_36_code, 3, (some .int), 1, 5, 0)
def m_X_row : zM := (3, ⟨"SeenFromBehind", "row", "(I)I"⟩, prog_1_method_37_code, 2, (some .int), 1, 2, 0)
def m_X_judge : zM := (3, ⟨"SeenFromBehind", "judge", "()I"⟩, prog_1_method_38_code, 4, (some .int), 0, 2, 0)
def m_X_clear : zM := (3, ⟨"SeenFromBehind", "clear", "()I"⟩, prog_1_method_39_code, 2, (some .int), 0, 0, 0)
def m_X_lots : zM := (3, ⟨"SeenFromBehind", "lots", "(III)I"⟩, prog_1_method_40_code, 9, (some .int), 3, 6, 0)
def m_X_nextSeed : zM := (3, ⟨"SeenFromBehind", "nextSeed", "(I)I"⟩, prog_1_method_55_code, 1, (some .int), 1, 0, 0)
def m_X_drawOf : zM := (3, ⟨"SeenFromBehind", "drawOf", "(II)I"⟩, prog_1_method_56_code, 2, (some .int), 2, 0, 0)
def m_H_howManySee : zM := (0, ⟨"SeenFromBehind$Hill", "howManySee", "(Z)I"⟩, prog_2_method_26_code, 5, (some .int), 1, 3, 0)
def m_X_image : zM := (3, ⟨"SeenFromBehind", "image", "()I"⟩, prog_1_method_41_code, 1, (some .int), 0, 2, 0)
def m_X_restore : zM := (3, ⟨"SeenFromBehind", "restore", "()I"⟩, prog_1_method_42_code, 1, (some .int), 0, 2, 0)
def m_X_count : zM := (3, ⟨"SeenFromBehind", "count", "(I)I"⟩, prog_1_method_43_code, 2, (some .int), 1, 4, 0)
def m_M_init : zM := (4, ⟨"SeenFromBehindModel", "<init>", "()V"⟩, prog_6_method_1_code, 1, none, 0, 0, 0)
def m_M_feed : zM := (4, ⟨"SeenFromBehindModel", "feed", "(I)I"⟩, prog_6_method_25_code, 2, (some .int), 1, 1, 0)
def m_M_refuse : zM := (4, ⟨"SeenFromBehindModel", "refuse", "(I)I"⟩, prog_6_method_4_code, 2, (some .int), 1, 0, 0)
def m_M_hill : zM := (4, ⟨"SeenFromBehindModel", "hill", "()I"⟩, prog_6_method_33_code, 2, (some .int), 0, 8, 0)
def m_M_readStatement : zM := (4, ⟨"SeenFromBehindModel", "readStatement", "()V"⟩, prog_6_method_30_code, 3, none, 0, 3, 0)
def m_M_here : zM := (4, ⟨"SeenFromBehindModel", "here", "()I"⟩, prog_6_method_26_code, 1, (some .int), 0, 0, 0)
def m_M_isLetter : zM := (4, ⟨"SeenFromBehindModel", "isLetter", "(I)Z"⟩, prog_6_method_28_code, 1, (some .boolean), 1, 0, 0)
def m_M_readNumbers : zM := (4, ⟨"SeenFromBehindModel", "readNumbers", "(II)V"⟩, prog_6_method_29_code, 3, none, 2, 2, 0)
def m_M_readDigits : zM := (4, ⟨"SeenFromBehindModel", "readDigits", "(I)I"⟩, prog_6_method_27_code, 4, (some .int), 1, 1, 0)
def m_M_in : zM := (4, ⟨"SeenFromBehindModel", "in", "(JJJ)Z"⟩, prog_6_method_3_code, 6, (some .boolean), 3, 0, 0)
def m_M_think : zM := (4, ⟨"SeenFromBehindModel", "think", "()V"⟩, prog_6_method_36_code, 1, none, 0, 2, 0)
def m_M_carryAll : zM := (4, ⟨"SeenFromBehindModel", "carryAll", "([IZ)V"⟩, prog_6_method_35_code, 4, none, 2, 1, 0)
def m_M_carry : zM := (4, ⟨"SeenFromBehindModel", "carry", "(I)I"⟩, prog_6_method_34_code, 2, (some .int), 1, 0, 0)
def m_M_comesTold : zM := (4, ⟨"SeenFromBehindModel", "comesTold", "(I)Z"⟩, prog_6_method_32_code, 7, (some .boolean), 1, 7, 0)
def m_M_oneIn : zM := (4, ⟨"SeenFromBehindModel", "oneIn", "(I)I"⟩, prog_6_method_15_code, 3, (some .int), 1, 0, 0)
def m_M_oneComes : zM := (4, ⟨"SeenFromBehindModel", "oneComes", "(IIII)V"⟩, prog_6_method_31_code, 5, none, 4, 0, 0)
def m_M_isOne : zM := (4, ⟨"SeenFromBehindModel", "isOne", "(I)Z"⟩, prog_6_method_5_code, 2, (some .boolean), 1, 1, 0)
def m_M_goNights : zM := (4, ⟨"SeenFromBehindModel", "goNights", "(I)V"⟩, prog_6_method_24_code, 3, none, 1, 6, 0)
def m_M_nightBy : zM := (4, ⟨"SeenFromBehindModel", "nightBy", "(I)V"⟩, prog_6_method_23_code, 4, none, 1, 5, 0)
def m_M_lensOf : zM := (4, ⟨"SeenFromBehindModel", "lensOf", "(I)I"⟩, prog_6_method_18_code, 2, (some .int), 1, 3, 0)
def m_M_depthOf : zM := (4, ⟨"SeenFromBehindModel", "depthOf", "(I)I"⟩, prog_6_method_14_code, 3, (some .int), 1, 0, 0)
def m_M_nextFrom : zM := (4, ⟨"SeenFromBehindModel", "nextFrom", "(III)I"⟩, prog_6_method_16_code, 7, (some .int), 3, 2, 0)
def m_M_straight : zM := (4, ⟨"SeenFromBehindModel", "straight", "(III)I"⟩, prog_6_method_12_code, 5, (some .int), 3, 1, 0)
def m_M_goesBy : zM := (4, ⟨"SeenFromBehindModel", "goesBy", "(II)V"⟩, prog_6_method_22_code, 3, none, 2, 4, 0)
def m_M_aheadOf : zM := (4, ⟨"SeenFromBehindModel", "aheadOf", "(I)I"⟩, prog_6_method_17_code, 2, (some .int), 1, 3, 0)
def m_M_reachOf : zM := (4, ⟨"SeenFromBehindModel", "reachOf", "(I)I"⟩, prog_6_method_13_code, 2, (some .int), 1, 0, 0)
def m_M_stepTo : zM := (4, ⟨"SeenFromBehindModel", "stepTo", "(II)V"⟩, prog_6_method_21_code, 4, none, 2, 2, 0)
def m_M_again : zM := (4, ⟨"SeenFromBehindModel", "again", "()V"⟩, prog_6_method_37_code, 1, none, 0, 2, 0)
def m_M_image : zM := (4, ⟨"SeenFromBehindModel", "image", "()I"⟩, prog_6_method_38_code, 1, (some .int), 0, 2, 0)
def m_M_restore : zM := (4, ⟨"SeenFromBehindModel", "restore", "()I"⟩, prog_6_method_39_code, 1, (some .int), 0, 2, 0)
def m_M_back : zM := (4, ⟨"SeenFromBehindModel", "back", "()I"⟩, prog_6_method_41_code, 2, (some .int), 0, 2, 0)
def m_M_personOf : zM := (4, ⟨"SeenFromBehindModel", "personOf", "(II)I"⟩, prog_6_method_42_code, 3, (some .int), 2, 2, 0)
def m_M_person : zM := (4, ⟨"SeenFromBehindModel", "person", "(IIII)I"⟩, prog_6_method_43_code, 6, (some .int), 4, 2, 0)
def m_M_wrongNumber : zM := (4, ⟨"SeenFromBehindModel", "wrongNumber", "(III)I"⟩, prog_6_method_8_code, 3, (some .int), 3, 0, 0)
def m_M_isCell : zM := (4, ⟨"SeenFromBehindModel", "isCell", "(I)Z"⟩, prog_6_method_7_code, 1, (some .boolean), 1, 1, 0)
def m_M_turns : zM := (4, ⟨"SeenFromBehindModel", "turns", "(II)I"⟩, prog_6_method_44_code, 4, (some .int), 2, 3, 0)
def m_M_keepTurn : zM := (4, ⟨"SeenFromBehindModel", "keepTurn", "()V"⟩, prog_6_method_40_code, 2, none, 0, 2, 0)
def m_M_stands : zM := (4, ⟨"SeenFromBehindModel", "stands", "(II)I"⟩, prog_6_method_45_code, 5, (some .int), 2, 3, 0)
def m_M_nights : zM := (4, ⟨"SeenFromBehindModel", "nights", "(I)I"⟩, prog_6_method_46_code, 3, (some .int), 1, 7, 0)
def m_M_allOfStarts : zM := (4, ⟨"SeenFromBehindModel", "allOfStarts", "()I"⟩, prog_6_method_20_code, 3, (some .int), 0, 0, 0)
def m_M_behind : zM := (4, ⟨"SeenFromBehindModel", "behind", "(III)I"⟩, prog_6_method_47_code, 6, (some .int), 3, 7, 0)
def m_M_wrongBit : zM := (4, ⟨"SeenFromBehindModel", "wrongBit", "(III)I"⟩, prog_6_method_9_code, 3, (some .int), 3, 1, 0)
def m_M_watchersOf : zM := (4, ⟨"SeenFromBehindModel", "watchersOf", "(I)I"⟩, prog_6_method_19_code, 4, (some .int), 1, 4, 0)
def m_M_allStarts : zM := (4, ⟨"SeenFromBehindModel", "allStarts", "(I)I"⟩, prog_6_method_48_code, 3, (some .int), 1, 7, 0)
def m_M_first : zM := (4, ⟨"SeenFromBehindModel", "first", "(II)I"⟩, prog_6_method_49_code, 7, (some .int), 2, 6, 0)
def m_M_still : zM := (4, ⟨"SeenFromBehindModel", "still", "()I"⟩, prog_6_method_50_code, 5, (some .int), 0, 6, 0)
def m_M_unseen : zM := (4, ⟨"SeenFromBehindModel", "unseen", "()I"⟩, prog_6_method_51_code, 3, (some .int), 0, 4, 0)
def m_M_chain : zM := (4, ⟨"SeenFromBehindModel", "chain", "(II)I"⟩, prog_6_method_53_code, 5, (some .int), 2, 5, 0)
def m_M_chainFrom : zM := (4, ⟨"SeenFromBehindModel", "chainFrom", "(I)I"⟩, prog_6_method_52_code, 4, (some .int), 1, 4, 0)
def m_M_hasBit : zM := (4, ⟨"SeenFromBehindModel", "hasBit", "(II)Z"⟩, prog_6_method_10_code, 2, (some .boolean), 2, 0, 0)
def m_M_onesOf : zM := (4, ⟨"SeenFromBehindModel", "onesOf", "(I)I"⟩, prog_6_method_11_code, 3, (some .int), 1, 0, 0)
def m_M_deepest : zM := (4, ⟨"SeenFromBehindModel", "deepest", "()I"⟩, prog_6_method_54_code, 5, (some .int), 0, 5, 0)
def m_M_knows : zM := (4, ⟨"SeenFromBehindModel", "knows", "(II)I"⟩, prog_6_method_55_code, 8, (some .int), 2, 4, 0)
def m_M_safe : zM := (4, ⟨"SeenFromBehindModel", "safe", "(II)I"⟩, prog_6_method_56_code, 9, (some .int), 2, 4, 0)
def m_M_alone : zM := (4, ⟨"SeenFromBehindModel", "alone", "(II)I"⟩, prog_6_method_57_code, 9, (some .int), 2, 5, 0)
def m_M_turnAll : zM := (4, ⟨"SeenFromBehindModel", "turnAll", "()I"⟩, prog_6_method_58_code, 5, (some .int), 0, 4, 0)
def m_M_post : zM := (4, ⟨"SeenFromBehindModel", "post", "(I)I"⟩, prog_6_method_59_code, 7, (some .int), 1, 5, 0)
def m_M_which : zM := (4, ⟨"SeenFromBehindModel", "which", "(II)I"⟩, prog_6_method_61_code, 6, (some .int), 2, 7, 0)
def m_M_isRow : zM := (4, ⟨"SeenFromBehindModel", "isRow", "(I)Z"⟩, prog_6_method_60_code, 4, (some .boolean), 1, 6, 0)
def m_M_bestStep : zM := (4, ⟨"SeenFromBehindModel", "bestStep", "(I)I"⟩, prog_6_method_63_code, 8, (some .int), 1, 5, 0)
def m_M_stepFrom : zM := (4, ⟨"SeenFromBehindModel", "stepFrom", "(II)I"⟩, prog_6_method_62_code, 4, (some .int), 2, 2, 0)
def m_M_two : zM := (4, ⟨"SeenFromBehindModel", "two", "(II)I"⟩, prog_6_method_65_code, 5, (some .int), 2, 4, 0)
def m_M_areTwo : zM := (4, ⟨"SeenFromBehindModel", "areTwo", "(II)Z"⟩, prog_6_method_6_code, 3, (some .boolean), 2, 2, 0)
def m_M_areResting : zM := (4, ⟨"SeenFromBehindModel", "areResting", "(I)Z"⟩, prog_6_method_64_code, 7, (some .boolean), 1, 0, 0)
def m_M_slept : zM := (4, ⟨"SeenFromBehindModel", "slept", "(IIIII)J"⟩, prog_6_method_68_code, 15, (some .long), 5, 6, 0)
def m_M_partOf : zM := (4, ⟨"SeenFromBehindModel", "partOf", "(JJI)J"⟩, prog_6_method_67_code, 7, (some .long), 3, 1, 0)
def m_M_divisor : zM := (4, ⟨"SeenFromBehindModel", "divisor", "(JJ)J"⟩, prog_6_method_66_code, 10, (some .long), 2, 0, 0)
def m_M_busiest : zM := (4, ⟨"SeenFromBehindModel", "busiest", "(I)I"⟩, prog_6_method_69_code, 6, (some .int), 1, 5, 0)
def m_M_twos : zM := (4, ⟨"SeenFromBehindModel", "twos", "(I)I"⟩, prog_6_method_70_code, 7, (some .int), 1, 4, 0)
def m_M_nearest : zM := (4, ⟨"SeenFromBehindModel", "nearest", "(I)I"⟩, prog_6_method_72_code, 8, (some .int), 1, 1, 0)
def m_M_apart : zM := (4, ⟨"SeenFromBehindModel", "apart", "(II)I"⟩, prog_6_method_71_code, 4, (some .int), 2, 0, 0)
def m_M_lines : zM := (4, ⟨"SeenFromBehindModel", "lines", "()I"⟩, prog_6_method_73_code, 6, (some .int), 0, 0, 0)
def m_M_hidden : zM := (4, ⟨"SeenFromBehindModel", "hidden", "()I"⟩, prog_6_method_74_code, 4, (some .int), 0, 3, 0)
def m_M_longest : zM := (4, ⟨"SeenFromBehindModel", "longest", "()I"⟩, prog_6_method_75_code, 3, (some .int), 0, 1, 0)
def m_M_walks : zM := (4, ⟨"SeenFromBehindModel", "walks", "(III)I"⟩, prog_6_method_76_code, 9, (some .int), 3, 6, 0)
def m_M_meets : zM := (4, ⟨"SeenFromBehindModel", "meets", "(II)I"⟩, prog_6_method_77_code, 5, (some .int), 2, 6, 0)
def m_M_leave : zM := (4, ⟨"SeenFromBehindModel", "leave", "(II)I"⟩, prog_6_method_78_code, 6, (some .int), 2, 4, 0)
def m_M_most : zM := (4, ⟨"SeenFromBehindModel", "most", "(II)I"⟩, prog_6_method_79_code, 9, (some .int), 2, 5, 0)
def m_M_quiet : zM := (4, ⟨"SeenFromBehindModel", "quiet", "(I)I"⟩, prog_6_method_80_code, 4, (some .int), 1, 6, 0)
def m_M_row : zM := (4, ⟨"SeenFromBehindModel", "row", "(I)I"⟩, prog_6_method_81_code, 2, (some .int), 1, 1, 0)
def m_M_judge : zM := (4, ⟨"SeenFromBehindModel", "judge", "()I"⟩, prog_6_method_82_code, 3, (some .int), 0, 0, 0)
def m_M_clear : zM := (4, ⟨"SeenFromBehindModel", "clear", "()I"⟩, prog_6_method_83_code, 2, (some .int), 0, 0, 0)
def m_M_lots : zM := (4, ⟨"SeenFromBehindModel", "lots", "(III)I"⟩, prog_6_method_85_code, 9, (some .int), 3, 7, 0)
def m_M_drawBelow : zM := (4, ⟨"SeenFromBehindModel", "drawBelow", "(I)I"⟩, prog_6_method_84_code, 2, (some .int), 1, 0, 0)
def m_M_count : zM := (4, ⟨"SeenFromBehindModel", "count", "(I)I"⟩, prog_6_method_86_code, 4, (some .int), 1, 4, 0)
def m_L_law : zM := (5, ⟨"SeenFromBehindLaw", "law", "([I)Z"⟩, code, 4, (some .boolean), 1, 15, 0)
/-- methods by their index: kind (0 virtual, 1 virtual of a nest mate, 2 static, 3 static of a nest mate, 4 constructor, 5 constructor of a nest mate) -/
def zmtT : List (Nat × Nat × Nat × zM) := [(0, 40, 3, m_X_at), (0, 44, 3, m_X_put), (0, 48, 3, m_X_bitOf), (0, 52, 3, m_X_reach), (0, 56, 3, m_X_depth), (0, 59, 0, m_H_whoIsAt), (0, 62, 3, m_X_rowOf), (0, 70, 3, m_X_columnOf), (0, 73, 3, m_X_cellBeside), (0, 76, 0, m_H_isFree), (0, 80, 0, m_H_reachOf), (0, 83, 0, m_H_nextTo), (0, 87, 3, m_X_turned), (0, 90, 0, m_H_depthOf), (0, 93, 0, m_H_ahead), (0, 96, 0, m_H_inLens), (0, 99, 0, m_H_nightWithout), (0, 106, 0, m_H_stirs), (0, 110, 0, m_H_turnsBy), (0, 113, 0, m_H_stepsTo), (1, 24, 5, m_H_init), (1, 25, 0, m_P_placeAt), (1, 29, 1, m_H_become), (2, 19, 3, m_X_put), (2, 23, 3, m_X_at), (2, 27, 2, m_T_digitsBehind), (2, 31, 0, m_T_digit), (2, 34, 0, m_T_number), (2, 37, 2, m_T_joins), (2, 41, 2, m_T_facesSo), (2, 45, 2, m_T_changesCell), (2, 48, 1, m_H_hasRoomFor), (2, 54, 1, m_H_pass), (2, 58, 3, m_X_isKind), (2, 61, 3, m_X_isCell), (2, 64, 3, m_X_isWay), (2, 68, 1, m_H_isFree), (2, 71, 1, m_H_join), (2, 75, 1, m_H_has), (2, 78, 1, m_H_face), (2, 82, 1, m_H_place), (3, 9, 5, m_H_init), (3, 32, 5, m_P_init), (3, 39, 5, m_T_init), (3, 55, 0, m_X_refuse), (3, 62, 1, m_T_append), (3, 65, 1, m_T_wrongPlace), (3, 69, 1, m_H_become), (3, 73, 1, m_T_beginsStatement), (3, 77, 1, m_T_comesTo), (3, 81, 1, m_T_forget), (3, 84, 1, m_P_forget), (3, 85, 1, m_H_has), (3, 88, 1, m_H_kindOf), (3, 91, 1, m_H_figureOf), (3, 94, 1, m_H_cellOf), (3, 97, 1, m_H_facesOf), (3, 100, 1, m_H_startsOf), (3, 103, 1, m_H_reachOf), (3, 106, 1, m_H_depthOf), (3, 109, 2, m_X_isKind), (3, 113, 2, m_X_isCell), (3, 116, 2, m_X_isWay), (3, 119, 1, m_H_isFree), (3, 122, 1, m_H_join), (3, 126, 1, m_P_keep), (3, 129, 1, m_H_face), (3, 133, 1, m_H_place), (3, 136, 1, m_H_hasRoomFor), (3, 139, 1, m_H_pass), (3, 143, 1, m_H_startsTogether), (3, 147, 1, m_P_giveBack), (3, 151, 0, m_X_wrongNights), (3, 155, 0, m_X_lookAhead), (3, 158, 1, m_H_ahead), (3, 161, 1, m_H_inLens), (3, 164, 1, m_H_watchers), (3, 167, 0, m_X_wrongWhat), (3, 171, 1, m_H_nightWithout), (3, 177, 2, m_X_bitOf), (3, 180, 1, m_H_everybody), (3, 183, 1, m_H_chainOf), (3, 186, 1, m_H_seenBy), (3, 189, 1, m_H_seesAllWays), (3, 192, 1, m_H_facesToSeeUnseen), (3, 195, 1, m_H_beOfKind), (3, 198, 1, m_H_beOfFigure), (3, 201, 0, m_X_turnsAsTold), (3, 204, 1, m_H_cellOfStep), (3, 207, 2, m_J_bitCount), (3, 212, 0, m_X_areTwo), (3, 216, 0, m_X_stepsSeenByFaces), (3, 219, 2, m_X_neitherHasBetter), (3, 225, 2, m_X_waysToFace), (3, 229, 2, m_X_commonDivisor), (3, 233, 1, m_H_cellsApart), (3, 236, 2, m_X_rowOf), (3, 239, 2, m_X_columnOf), (3, 242, 1, m_H_nextTo), (3, 248, 2, m_X_put), (3, 252, 2, m_X_at), (3, 256, 2, m_X_nextSeed), (3, 259, 2, m_X_drawOf), (3, 262, 1, m_H_howManySee), (3, 269, 2, m_X_pairBit), (4, 68, 2, m_M_in), (4, 72, 0, m_M_isOne), (4, 80, 2, m_M_straight), (4, 84, 0, m_M_oneIn), (4, 88, 0, m_M_reachOf), (4, 91, 0, m_M_nextFrom), (4, 94, 0, m_M_depthOf), (4, 97, 0, m_M_aheadOf), (4, 103, 0, m_M_stepTo), (4, 113, 0, m_M_lensOf), (4, 116, 0, m_M_goesBy), (4, 119, 0, m_M_nightBy), (4, 123, 0, m_M_refuse), (4, 136, 0, m_M_here), (4, 144, 0, m_M_readDigits), (4, 150, 2, m_M_isLetter), (4, 153, 0, m_M_readNumbers), (4, 156, 0, m_M_oneComes), (4, 162, 0, m_M_goNights), (4, 165, 0, m_M_readStatement), (4, 168, 0, m_M_think), (4, 171, 0, m_M_comesTold), (4, 174, 0, m_M_again), (4, 189, 0, m_M_carry), (4, 192, 0, m_M_carryAll), (4, 201, 2, m_M_wrongNumber), (4, 204, 2, m_M_isCell), (4, 209, 0, m_M_keepTurn), (4, 212, 0, m_M_allOfStarts), (4, 215, 2, m_M_wrongBit), (4, 218, 0, m_M_watchersOf), (4, 221, 2, m_M_hasBit), (4, 231, 2, m_M_onesOf), (4, 234, 0, m_M_chainFrom), (4, 240, 0, m_M_isRow), (4, 243, 0, m_M_stepFrom), (4, 247, 0, m_M_areTwo), (4, 250, 0, m_M_areResting), (4, 253, 2, m_M_divisor), (4, 259, 2, m_M_partOf), (4, 263, 2, m_M_apart), (4, 272, 0, m_M_drawBelow), (5, 9, 4, m_X_init), (5, 12, 4, m_M_init), (5, 13, 0, m_X_feed), (5, 17, 0, m_M_feed), (5, 18, 0, m_X_hill), (5, 22, 0, m_M_hill), (5, 23, 0, m_X_personOf), (5, 27, 0, m_M_personOf), (5, 28, 0, m_X_person), (5, 32, 0, m_M_person), (5, 33, 0, m_X_turns), (5, 36, 0, m_M_turns), (5, 37, 0, m_X_stands), (5, 40, 0, m_M_stands), (5, 41, 0, m_X_nights), (5, 44, 0, m_M_nights), (5, 45, 0, m_X_back), (5, 48, 0, m_M_back), (5, 49, 0, m_X_behind), (5, 53, 0, m_M_behind), (5, 54, 0, m_X_allStarts), (5, 57, 0, m_M_allStarts), (5, 58, 0, m_X_first), (5, 61, 0, m_M_first), (5, 62, 0, m_X_still), (5, 65, 0, m_M_still), (5, 66, 0, m_X_unseen), (5, 69, 0, m_M_unseen), (5, 70, 0, m_X_chain), (5, 73, 0, m_M_chain), (5, 74, 0, m_X_deepest), (5, 77, 0, m_M_deepest), (5, 78, 0, m_X_knows), (5, 81, 0, m_M_knows), (5, 82, 0, m_X_safe), (5, 85, 0, m_M_safe), (5, 86, 0, m_X_alone), (5, 89, 0, m_M_alone), (5, 90, 0, m_X_turnAll), (5, 93, 0, m_M_turnAll), (5, 94, 0, m_X_post), (5, 97, 0, m_M_post), (5, 98, 0, m_X_which), (5, 101, 0, m_M_which), (5, 102, 0, m_X_bestStep), (5, 105, 0, m_M_bestStep), (5, 106, 0, m_X_two), (5, 109, 0, m_M_two), (5, 110, 0, m_X_slept), (5, 114, 0, m_M_slept), (5, 115, 0, m_X_busiest), (5, 118, 0, m_M_busiest), (5, 119, 0, m_X_twos), (5, 122, 0, m_M_twos), (5, 123, 0, m_X_nearest), (5, 126, 0, m_M_nearest), (5, 127, 0, m_X_lines), (5, 130, 0, m_M_lines), (5, 131, 0, m_X_hidden), (5, 134, 0, m_M_hidden), (5, 135, 0, m_X_longest), (5, 138, 0, m_M_longest), (5, 139, 0, m_X_walks), (5, 142, 0, m_M_walks), (5, 143, 0, m_X_meets), (5, 146, 0, m_M_meets), (5, 147, 0, m_X_leave), (5, 150, 0, m_M_leave), (5, 151, 0, m_X_most), (5, 154, 0, m_M_most), (5, 155, 0, m_X_quiet), (5, 158, 0, m_M_quiet), (5, 159, 0, m_X_row), (5, 162, 0, m_M_row), (5, 163, 0, m_X_judge), (5, 166, 0, m_M_judge), (5, 167, 0, m_X_clear), (5, 170, 0, m_M_clear), (5, 171, 0, m_X_lots), (5, 174, 0, m_M_lots), (5, 175, 0, m_X_image), (5, 178, 0, m_M_image), (5, 179, 0, m_X_restore), (5, 182, 0, m_M_restore), (5, 183, 0, m_X_count), (5, 186, 0, m_M_count)]
def zrk (m : zM) (as : List Value) : Nat := m.2.2.2.2.2.2.1 + (match m.2.2.2.2.2.2.2 with | 0 => 0 | _ + 1 => match as with | _ :: _ :: .int n :: _ => (if n < 1 ∨ 8 < n then 0 else n.toNatClampNeg) | _ => 0)
def zar : Instr → Int32 → Int32 → Option Int32
  | .iadd, x, y => some (x + y)
  | .isub, x, y => some (x - y)
  | .imul, x, y => some (x * y)
  | .idiv, x, y => if y = 0 then none else some (x / y)
  | .irem, x, y => if y = 0 then none else some (x - x / y * y)
  | .iand, x, y => some (x &&& y)
  | .ior, x, y => some (x ||| y)
  | .ixor, x, y => some (x ^^^ y)
  | .ishl, x, y => some (x <<< (y &&& 31))
  | .ishr, x, y => some (x >>> (y &&& 31))
  | .iushr, x, y => some ((x.toUInt32 >>> (y.toUInt32 &&& Int32.toUInt32 31)).toInt32)
  | _, _, _ => none
def zal : Instr → Int64 → Int64 → Option Int64
  | .ladd, x, y => some (x + y)
  | .lsub, x, y => some (x - y)
  | .lmul, x, y => some (x * y)
  | .ldiv, x, y => if y = 0 then none else some (x / y)
  | .lrem, x, y => if y = 0 then none else some (x - x / y * y)
  | _, _, _ => none
/-- a constant that is pushed, and the length -/
def zcst (o : Nat) : Instr → Option (Value × Nat)
  | .iconst n => some (.int (Int32.ofInt n), 1)
  | .bipush n => some (.int (Int8.ofInt n).toInt32, 2)
  | .sipush n => some (.int (Int16.ofInt n).toInt32, 3)
  | .lconst n => some (.long (Int64.ofNat (n : Nat)), 1)
  | .ldc_w ix => (zco0 zcoT o ix).map fun v => (.int v, 3)
  | .ldc2_w ix => (zco0 zclT o ix).map fun v => (.long v, 3)
  | _ => none
/-- a local that is read (its number, 1 int, 2 long, 3 reference) -/
def zldx : Instr → Option (Nat × Nat × Nat)
  | .iload i => some (i, 1, 2)
  | .iload_n i => some (i, 1, 1)
  | .lload i => some (i, 2, 2)
  | .lload_n i => some (i, 2, 1)
  | .aload i => some (i, 3, 2)
  | .aload_n i => some (i, 3, 1)
  | _ => none
def zstx : Instr → Option (Nat × Nat × Nat)
  | .istore i => some (i, 1, 2)
  | .istore_n i => some (i, 1, 1)
  | .lstore i => some (i, 2, 2)
  | .lstore_n i => some (i, 2, 1)
  | .astore i => some (i, 3, 2)
  | .astore_n i => some (i, 3, 1)
  | _ => none
def zty : Value → Nat
  | .int _ => 1
  | .long _ => 2
  | .ref _ => 3
  | _ => 0
def zic : Jvm.ClassFile.Cond → Int32 → Int32 → Bool
  | .eq, x, y => decide (x = y)
  | .ne, x, y => decide (¬ x = y)
  | .lt, x, y => decide (x < y)
  | .ge, x, y => decide (y ≤ x)
  | .gt, x, y => decide (y < x)
  | .le, x, y => decide (x ≤ y)
def ztg (pc : Nat) (off : Int) : Option Nat := if ((((pc : Int) + off).toNat : Nat) : Int) = (pc : Int) + off then some ((pc : Int) + off).toNat else none
def zgo (t : Option Nat) (ls : zL) (st : List Value) (p : zP) (h : zH) : Option zS := match t with | some q => some (q, ls, st, p, h) | none => none
def zsw (pc : Nat) (d lo hi : Int) (offs : Array Int) (x : Int32) : Option Nat := if x.toInt < lo ∨ hi < x.toInt then ztg pc d else (match offs[(x.toInt - lo).toNat]? with | some o => ztg pc o | none => none)
def zlw (pc : Nat) (d : Int) (ps : Array (Int × Int)) (x : Int32) : Option Nat := if (ps.toList.zip (ps.toList.drop 1)).all (fun (a, next) => a.1 < next.1) = true then ztg pc (Op.lookupswitch.offset ps.toList d x.toInt) else none
def zxGet (k : zM) (ix len : Nat) : zS → Option zS
  | (pc, ls, .ref a :: r, p, h) => if len = 3 ∧ zcl p.1 a = (2 + (zfd (zo k) ix).1, zNf (zfd (zo k) ix).1) then (match (zfd (zo k) ix).2.2 with
      | 0 => some (pc + 3, ls, .int (h.1 a (zfd (zo k) ix).2.1) :: r, p, h)
      | 1 => some (pc + 3, ls, .int (h.1 a (zfd (zo k) ix).2.1) :: r, p, h)
      | 2 => some (pc + 3, ls, zrv (zlk p.2 a (zfd (zo k) ix).2.1) :: r, p, h)
      | 3 => some (pc + 3, ls, zrv h.2 :: r, p, h)
      | _ => none) else none
  | _ => none
def zxPut (k : zM) (ix len : Nat) : zS → Option zS
  | (pc, ls, v :: .ref a :: r, p, h) => if len = 3 ∧ zcl p.1 a = (2 + (zfd (zo k) ix).1, zNf (zfd (zo k) ix).1) then (match (zfd (zo k) ix).2.2, v with
      | 0, .int x => some (pc + 3, ls, r, p, (zup h.1 a (zfd (zo k) ix).2.1 x, h.2))
      | 1, .int x => if x = 0 ∨ x = 1 then some (pc + 3, ls, r, p, (zup h.1 a (zfd (zo k) ix).2.1 x, h.2)) else none
      | 2, .ref (q + 1) => if (zn k).name = "<init>" ∧ (zfd (zo k) ix).1 = zo k then some (pc + 3, ls, r, (p.1, (a, (zfd (zo k) ix).2.1, q + 1) :: p.2), h) else none
      | 3, .ref (q + 1) => some (pc + 3, ls, r, p, (h.1, q + 1))
      | _, _ => none) else none
  | _ => none
def zxAld (X : zX) (len : Nat) : zS → Option zS
  | (pc, ls, .int x :: .ref 0 :: r, p, h) => if len = 1 ∧ zin x X.1 = true then some (pc + 1, ls, .int (X.2 x.toNatClampNeg) :: r, p, h) else none
  | (pc, ls, .int x :: .ref (b + 1) :: r, p, h) => if len = 1 ∧ (zcl p.1 (b + 1)).1 = 0 ∧ zin x (zcl p.1 (b + 1)).2 = true then some (pc + 1, ls, .int (h.1 (b + 1) x.toNatClampNeg) :: r, p, h) else none
  | _ => none
def zxAst (len : Nat) : zS → Option zS
  | (pc, ls, .int v :: .int x :: .ref a :: r, p, h) => if len = 1 ∧ (zcl p.1 a).1 = 0 ∧ zin x (zcl p.1 a).2 = true then some (pc + 1, ls, r, p, (zup h.1 a x.toNatClampNeg v, h.2)) else none
  | _ => none
def zxQld (len : Nat) : zS → Option zS
  | (pc, ls, .int x :: .ref a :: r, p, h) => if len = 1 ∧ (zcl p.1 a).1 = 1 ∧ zin x (zcl p.1 a).2 = true then some (pc + 1, ls, zrv (zlk p.2 a x.toNatClampNeg) :: r, p, h) else none
  | _ => none
def zxQst (len : Nat) : zS → Option zS
  | (pc, ls, .ref (q + 1) :: .int x :: .ref a :: r, p, h) => if len = 1 ∧ (zcl p.1 a).1 = 1 ∧ zin x (zcl p.1 a).2 = true ∧ zcl p.1 (q + 1) = (2, 9) then some (pc + 1, ls, r, (p.1, (a, x.toNatClampNeg, q + 1) :: p.2), h) else none
  | _ => none
def zxLen (X : zX) (len : Nat) : zS → Option zS
  | (pc, ls, .ref 0 :: r, p, h) => if len = 1 then some (pc + 1, ls, .int (Int32.ofNat X.1) :: r, p, h) else none
  | (pc, ls, .ref (b + 1) :: r, p, h) => if len = 1 ∧ ((zcl p.1 (b + 1)).1 = 0 ∨ (zcl p.1 (b + 1)).1 = 1) then some (pc + 1, ls, .int (Int32.ofNat (zcl p.1 (b + 1)).2) :: r, p, h) else none
  | _ => none
/-- nothing has been written yet of the cell that comes next -/
def zfrs (p : zP) : Bool := p.2.all fun q => decide (q.1 ≤ p.1)
def zxNew (k : zM) (ix len : Nat) : zS → Option zS
  | (pc, ls, r, p, h) => (match zco0 zknT (zo k) ix with
        | some c => if len = 3 ∧ zSH.getD p.1 (9, 0) = (2 + c, zNf c) ∧ c < 5 ∧ p.1 < 140 ∧ zfrs p = true ∧ h.2 = 0 then some (pc + 3, ls, .ref (p.1 + 1) :: r, (p.1 + 1, p.2), (zclr h.1 (p.1 + 1), h.2)) else none
        | none => none)
def zxNwa (len : Nat) : zS → Option zS
  | (pc, ls, .int n :: r, p, h) => if len = 2 ∧ ¬ n < 0 ∧ zSH.getD p.1 (9, 0) = (0, n.toNatClampNeg) ∧ p.1 < 140 ∧ zfrs p = true then some (pc + 2, ls, .ref (p.1 + 1) :: r, (p.1 + 1, p.2), (zclr h.1 (p.1 + 1), h.2)) else none
  | _ => none
def zxNwq (k : zM) (ix len : Nat) : zS → Option zS
  | (pc, ls, .int n :: r, p, h) => if len = 3 ∧ ¬ n < 0 ∧ zco0 zknT (zo k) ix = some 0 ∧ zSH.getD p.1 (9, 0) = (1, n.toNatClampNeg) ∧ p.1 < 140 ∧ zfrs p = true then some (pc + 3, ls, .ref (p.1 + 1) :: r, (p.1 + 1, p.2), (zclr h.1 (p.1 + 1), h.2)) else none
  | _ => none
def zxDup (len : Nat) : zS → Option zS
  | (pc, ls, v :: r, p, h) => if len = 1 ∧ v.category = 1 then some (pc + 1, ls, v :: v :: r, p, h) else none
  | _ => none
def zxDup2 (len : Nat) : zS → Option zS
  | (pc, ls, v :: u :: r, p, h) => if len = 1 ∧ v.category = 1 ∧ u.category = 1 then some (pc + 1, ls, v :: u :: v :: u :: r, p, h) else none
  | _ => none
def zxPop (len : Nat) : zS → Option zS
  | (pc, ls, v :: r, p, h) => if len = 1 ∧ v.category = 1 then some (pc + 1, ls, r, p, h) else none
  | _ => none
def zxNeg (len : Nat) : zS → Option zS
  | (pc, ls, .int x :: r, p, h) => if len = 1 then some (pc + 1, ls, .int (-x) :: r, p, h) else none
  | _ => none
def zxI2l (len : Nat) : zS → Option zS
  | (pc, ls, .int x :: r, p, h) => if len = 1 then some (pc + 1, ls, .long x.toInt64 :: r, p, h) else none
  | _ => none
def zxLcmp (len : Nat) : zS → Option zS
  | (pc, ls, .long y :: .long x :: r, p, h) => if len = 1 then some (pc + 1, ls, .int (lg_cmp x y) :: r, p, h) else none
  | _ => none
def zxInc (j : Nat) (n : Int) (len : Nat) : zS → Option zS
  | (pc, ls, r, p, h) => (match ls[j]? with | some (some (.int x)) => if len = 3 then some (pc + 3, zput1 ls j (.int (x + Int32.ofInt n)), r, p, h) else none | _ => none)
def zxNull (o : Int) (len : Nat) : zS → Option zS
  | (pc, ls, .ref _ :: r, p, h) => if len = 3 then some (pc + 3, ls, r, p, h) else none
  | (pc, ls, .null :: r, p, h) => if len = 3 then zgo (ztg pc o) ls r p h else none
  | _ => none
def zxNnull (o : Int) (len : Nat) : zS → Option zS
  | (pc, ls, .ref _ :: r, p, h) => if len = 3 then zgo (ztg pc o) ls r p h else none
  | (pc, ls, .null :: r, p, h) => if len = 3 then some (pc + 3, ls, r, p, h) else none
  | _ => none
def zxIf (c : Jvm.ClassFile.Cond) (o : Int) (len : Nat) : zS → Option zS
  | (pc, ls, .int x :: r, p, h) => if len = 3 then (match ztg pc o with | some t => some (if zic c x 0 = true then t else pc + 3, ls, r, p, h) | none => none) else none
  | _ => none
def zxIc (c : Jvm.ClassFile.Cond) (o : Int) (len : Nat) : zS → Option zS
  | (pc, ls, .int y :: .int x :: r, p, h) => if len = 3 then (match ztg pc o with | some t => some (if zic c x y = true then t else pc + 3, ls, r, p, h) | none => none) else none
  | _ => none
def zxTsw (d lo hi : Int) (offs : Array Int) : zS → Option zS
  | (pc, ls, .int x :: r, p, h) => zgo (zsw pc d lo hi offs x) ls r p h
  | _ => none
def zxLsw (d : Int) (ps : Array (Int × Int)) : zS → Option zS
  | (pc, ls, .int x :: r, p, h) => zgo (zlw pc d ps x) ls r p h
  | _ => none
def zxObj (k : zM) (ix len : Nat) : zS → Option zS
  | (pc, ls, .ref _ :: r, p, h) => if len = 3 ∧ zco0 zbiT (zo k) ix = some 1 ∧ zcat r = 0 ∧ ls.length = zml k then some (pc + 3, ls, r, p, h) else none
  | _ => none
def zxMath (k : zM) (ix len : Nat) : zS → Option zS
  | (pc, ls, .int y :: r, p, h) => (match zco0 zbiT (zo k) ix with
      | some 2 => (match r with
        | .int x :: r' => if len = 3 ∧ zcat r' ≤ 8 then some (pc + 3, ls, .int (if y < x then y else x) :: r', p, h) else none
        | _ => none)
      | some 3 => if len = 3 ∧ zcat r ≤ 8 then some (pc + 3, ls, .int (if 0 ≤ y then y else 0 - y) :: r, p, h) else none
      | _ => none)
  | _ => none
def zxAr (i : Instr) (len : Nat) : zS → Option zS
  | (pc, ls, .int y :: .int x :: r, p, h) => (match zar i x y with | some v => if len = 1 then some (pc + 1, ls, .int v :: r, p, h) else none | none => none)
  | (pc, ls, .long y :: .long x :: r, p, h) => (match zal i x y with | some v => if len = 1 then some (pc + 1, ls, .long v :: r, p, h) else none | none => none)
  | _ => none
def zxCst (v : Value) (n len : Nat) : zS → Option zS
  | (pc, ls, st, p, h) => if len = n then some (pc + n, ls, v :: st, p, h) else none
def zxLd (j ty n len : Nat) : zS → Option zS
  | (pc, ls, st, p, h) => (match ls[j]? with | some (some v) => if len = n ∧ zty v = ty then some (pc + n, ls, v :: st, p, h) else none | _ => none)
def zxSt (j ty n len : Nat) : zS → Option zS
  | (pc, ls, v :: r, p, h) => if len = n ∧ zty v = ty then (if ty = 2 then (if j + 1 < ls.length then some (pc + n, zput2 ls j v, r, p, h) else none) else (if j < ls.length then some (pc + n, zput1 ls j v, r, p, h) else none)) else none
  | _ => none
/-- an instruction with one follower -/
def zsim (X : zX) (k : zM) (i : Instr) (len : Nat) (s : zS) : Option zS :=
  match zcst (zo k) i with
  | some (v, n) => zxCst v n len s
  | none =>
  match zldx i with
  | some (j, ty, n) => zxLd j ty n len s
  | none =>
  match zstx i with
  | some (j, ty, n) => zxSt j ty n len s
  | none =>
  match i with
  | .getfield ix => zxGet k ix len s
  | .putfield ix => zxPut k ix len s
  | .iaload => zxAld X len s
  | .iastore => zxAst len s
  | .aaload => zxQld len s
  | .aastore => zxQst len s
  | .arraylength => zxLen X len s
  | .new ix => zxNew k ix len s
  | .newarray .int => zxNwa len s
  | .anewarray ix => zxNwq k ix len s
  | .dup => zxDup len s
  | .dup2 => zxDup2 len s
  | .pop => zxPop len s
  | .aconst_null => if len = 1 then some (s.1 + 1, s.2.1, .null :: s.2.2.1, s.2.2.2) else none
  | .ineg => zxNeg len s
  | .i2l => zxI2l len s
  | .lcmp => zxLcmp len s
  | .iinc j n => zxInc j n len s
  | .goto o => if len = 3 then zgo (ztg s.1 o) s.2.1 s.2.2.1 s.2.2.2.1 s.2.2.2.2 else none
  | .ifnull o => zxNull o len s
  | .ifnonnull o => zxNnull o len s
  | .ifCond c o => zxIf c o len s
  | .if_icmp c o => zxIc c o len s
  | .tableswitch d lo hi offs => zxTsw d lo hi offs s
  | .lookupswitch d ps => zxLsw d ps s
  | .invokespecial ix => zxObj k ix len s
  | .invokestatic ix => zxMath k ix len s
  | i => zxAr i len s
/-- an answer -/
def zrtn (k : zM) (i : Instr) (len : Nat) : zS → Option zR
  | (_, _, st, p, h) => if len = 1 then (match i, st, zrt k with
    | .ireturn, [.int v], some .int => some (some (.int v), p, h)
    | .ireturn, [.int v], some .boolean => if v = 0 ∨ v = 1 then some (some (.int v), p, h) else none
    | .lreturn, [.long v], some .long => some (some (.long v), p, h)
    | .areturn, [.ref a], some (.object _) => some (some (.ref a), p, h)
    | .return_, [], none => some (none, p, h)
    | _, _, _ => none) else none
/-- a call: the method, its arguments, the stack below -/
def zinv (k : zM) (i : Instr) (len : Nat) : zS → Option (zM × List Value × List Value × Bool)
  | (_, _, st, p, _) => if len = 3 then (match i with
    | .invokevirtual ix => (match zco0 zmtT (zo k) ix with
      | some (kd, m) => if kd ≤ 1 ∧ znp m ≤ st.length then (match st.drop (znp m) with
          | .ref a :: r => if zcl p.1 a = (2 + zo m, zNf (zo m)) ∧ zcat r ≤ 8 then some (m, .ref a :: (st.take (znp m)).reverse, r, false) else none
          | _ => none) else none
      | none => none)
    | .invokespecial ix => (match zco0 zmtT (zo k) ix with
      | some (kd, m) => if (kd = 4 ∨ kd = 5) ∧ znp m ≤ st.length then (match st.drop (znp m) with
          | .ref a :: r => if zcat r ≤ 8 then some (m, .ref a :: (st.take (znp m)).reverse, r, true) else none
          | _ => none) else none
      | none => none)
    | .invokestatic ix => (match zco0 zmtT (zo k) ix with
      | some (kd, m) => if (kd = 2 ∨ kd = 3) ∧ znp m ≤ st.length ∧ zcat (st.drop (znp m)) ≤ 8 then some (m, (st.take (znp m)).reverse, st.drop (znp m), false) else none
      | none => none)
    | _ => none) else none
/-- one step: a follower or an answer -/
def zst (X : zX) (r : Nat) (k : zM) (C : zM → List Value → zP → zH → Option zR) (s : zS) : Option (zS ⊕ zR) :=
  match decode (zb k) s.1 with
  | .error _ => none
  | .ok (i, len) => match zsim X k i len s with
    | some s' => if s.2.2.2.1.1 ≤ s'.2.2.2.1.1 then some (.inl s') else none
    | none => match zrtn k i len s with
      | some x => some (.inr x)
      | none => match zinv k i len s with
        | none => none
        | some (m, as, rest, t) => if zrk m as < r then (match C m as s.2.2.2.1 s.2.2.2.2 with
            | some (v, p', h') => if s.2.2.2.1.1 ≤ p'.1 ∧ (t = true ∨ p' = s.2.2.2.1) then some (.inl (s.1 + 3, s.2.1, v.toList ++ rest, p', h')) else none
            | none => none) else none
def zex (X : zX) (r : Nat) (k : zM) (C : zM → List Value → zP → zH → Option zR) : Nat → zS → Option zR
  | 0, _ => none
  | n + 1, s => match zst X r k C s with
    | none => none
    | some (.inl s') => zex X r k C n s'
    | some (.inr x) => some x
def zev (X : zX) : Nat → Nat → zM → List Value → zP → zH → Option zR
  | 0, _, _, _, _, _ => none
  | d + 1, n, m, as, p, h => if (zla as).length ≤ zml m then zex X (zrk m as) m (zev X d n) n (0, zini m as, [], p, h) else none
