/-! what the tables say, for the evaluator's tables -/
def zgd : Jvm.Cond → Bool := fun w => (w.onTables && w.keeps) || (match w with | .arrayClass _ => true | _ => false)
def znst : Jvm.Cond → Bool
  | .fieldLinkNest .. => true
  | .methodLinkNest .. => true
  | .arrayOver (.object _) => true
  | _ => false
/-- the words that are needed: those that hold in a callee of themselves, and those that are carried -/
def zTs : List Jvm.Cond := lw_tbl.filter (fun w => zgd w || znst w)
theorem zTs_in {w : Jvm.Cond} (h : w ∈ lw_tbl) (g : (zgd w || znst w) = true) : w ∈ zTs := List.mem_filter.mpr ⟨h, g⟩
def zcn : Nat → String := fun c => match c with | 0 => "SeenFromBehind$Hill" | 1 => "SeenFromBehind$Past" | 2 => "SeenFromBehind$Text" | 3 => "SeenFromBehind" | 4 => "SeenFromBehindModel" | 5 => "SeenFromBehindLaw" | _ => "java/lang/Integer"
def zFT : List (List (String × String × String × Bool)) := [[("SeenFromBehind$Hill", "kinds", "[I", true), ("SeenFromBehind$Hill", "figures", "[I", true), ("SeenFromBehind$Hill", "cells", "[I", true), ("SeenFromBehind$Hill", "faces", "[I", true), ("SeenFromBehind$Hill", "starts", "[I", true), ("SeenFromBehind$Hill", "size", "I", false), ("SeenFromBehind$Hill", "night", "I", false), ("SeenFromBehind$Hill", "started", "I", false), ("SeenFromBehind$Hill", "stirred", "I", false)], [("SeenFromBehind$Past", "kept", "[LSeenFromBehind$Hill;", true), ("SeenFromBehind$Past", "size", "I", false), ("SeenFromBehind$Past", "nextPlace", "I", false)], [("SeenFromBehind$Text", "letters", "[I", true), ("SeenFromBehind$Text", "size", "I", false)], [("SeenFromBehind", "now", "LSeenFromBehind$Hill;", true), ("SeenFromBehind", "mind", "LSeenFromBehind$Hill;", true), ("SeenFromBehind", "deeper", "[LSeenFromBehind$Hill;", true), ("SeenFromBehind", "taken", "LSeenFromBehind$Hill;", true), ("SeenFromBehind", "imageTaken", "Z", false), ("SeenFromBehind", "past", "LSeenFromBehind$Past;", true), ("SeenFromBehind", "text", "LSeenFromBehind$Text;", true), ("SeenFromBehind", "told", "[I", true), ("SeenFromBehind", "toldSize", "I", false), ("SeenFromBehind", "refusals", "[I", true)], [("SeenFromBehindModel", "people", "I", false), ("SeenFromBehindModel", "kinds", "[I", true), ("SeenFromBehindModel", "figures", "[I", true), ("SeenFromBehindModel", "cells", "[I", true), ("SeenFromBehindModel", "faces0", "[I", true), ("SeenFromBehindModel", "starts0", "[I", true), ("SeenFromBehindModel", "night", "I", false), ("SeenFromBehindModel", "thrown", "I", false), ("SeenFromBehindModel", "refusals", "[I", true), ("SeenFromBehindModel", "stepped", "I", false), ("SeenFromBehindModel", "started", "I", false), ("SeenFromBehindModel", "letters", "[I", true), ("SeenFromBehindModel", "letterMany", "I", false), ("SeenFromBehindModel", "at", "I", false), ("SeenFromBehindModel", "isBad", "Z", false), ("SeenFromBehindModel", "statements", "I", false), ("SeenFromBehindModel", "placeIn", "[I", true), ("SeenFromBehindModel", "letterOf", "[I", true), ("SeenFromBehindModel", "told", "[I", true), ("SeenFromBehindModel", "kept", "[I", true), ("SeenFromBehindModel", "imaged", "[I", true), ("SeenFromBehindModel", "hasImage", "Z", false), ("SeenFromBehindModel", "place0", "I", false), ("SeenFromBehindModel", "isTaking", "Z", false), ("SeenFromBehindModel", "keptIn", "[I", false), ("SeenFromBehindModel", "turns0", "[I", true), ("SeenFromBehindModel", "turnOf", "[I", true), ("SeenFromBehindModel", "turned", "I", false), ("SeenFromBehindModel", "wasIn", "[I", true), ("SeenFromBehindModel", "chainRing", "I", false), ("SeenFromBehindModel", "chainLast", "I", false), ("SeenFromBehindModel", "row", "[I", true), ("SeenFromBehindModel", "rowMany", "I", false), ("SeenFromBehindModel", "seesBy", "[I", true), ("SeenFromBehindModel", "seed", "I", false)]]
def zTT : List (List FieldType) := [[.array .int, .array .int, .array .int, .array .int, .array .int, .int, .int, .int, .int], [.array (.object "SeenFromBehind$Hill"), .int, .int], [.array .int, .int], [.object "SeenFromBehind$Hill", .object "SeenFromBehind$Hill", .array (.object "SeenFromBehind$Hill"), .object "SeenFromBehind$Hill", .boolean, .object "SeenFromBehind$Past", .object "SeenFromBehind$Text", .array .int, .int, .array .int], [.int, .array .int, .array .int, .array .int, .array .int, .array .int, .int, .int, .array .int, .int, .int, .array .int, .int, .int, .boolean, .int, .array .int, .array .int, .array .int, .array .int, .array .int, .boolean, .int, .boolean, .array .int, .array .int, .array .int, .int, .array .int, .int, .int, .array .int, .int, .array .int, .int]]
def zKT : List (List Nat) := [[2, 2, 2, 2, 2, 0, 0, 0, 0], [2, 0, 0], [2, 0], [2, 2, 2, 2, 1, 2, 2, 2, 0, 2], [0, 2, 2, 2, 2, 2, 0, 0, 2, 0, 0, 2, 0, 0, 1, 0, 2, 2, 2, 2, 2, 1, 0, 1, 3, 2, 2, 0, 2, 0, 0, 2, 0, 2, 0]]
theorem zix1 (i : Nat) {w : Jvm.Cond} (h : tables_1_1[i]? = some w) (g : (zgd w || znst w) = true) : w ∈ zTs := zTs_in (List.mem_append_right _ (List.mem_append_left _ (List.mem_of_getElem? h))) g
theorem zixb (i : Nat) {w : Jvm.Cond} (h : tables_1_2[i]? = some w) (g : (zgd w || znst w) = true) : w ∈ zTs := zTs_in (List.mem_append_right _ (List.mem_append_right _ (List.mem_append_left _ (List.mem_of_getElem? h)))) g
theorem zixc (i : Nat) {w : Jvm.Cond} (h : tables_1_3[i]? = some w) (g : (zgd w || znst w) = true) : w ∈ zTs := zTs_in (List.mem_append_right _ (List.mem_append_right _ (List.mem_append_right _ (List.mem_append_left _ (List.mem_of_getElem? h))))) g
theorem zixd (i : Nat) {w : Jvm.Cond} (h : tables_1_4[i]? = some w) (g : (zgd w || znst w) = true) : w ∈ zTs := zTs_in (List.mem_append_right _ (List.mem_append_right _ (List.mem_append_right _ (List.mem_append_right _ (List.mem_append_left _ (List.mem_of_getElem? h)))))) g
theorem zixe (i : Nat) {w : Jvm.Cond} (h : tables_1_5[i]? = some w) (g : (zgd w || znst w) = true) : w ∈ zTs := zTs_in (List.mem_append_right _ (List.mem_append_right _ (List.mem_append_right _ (List.mem_append_right _ (List.mem_append_right _ (List.mem_of_getElem? h)))))) g
def zF (c : Nat) : u_T := fun k => (zFT.getD c []).getD k ("", "", "", false)
def zTy (c k : Nat) : FieldType := (zTT.getD c []).getD k .int
def zfk (c k : Nat) : Nat := (zKT.getD c []).getD k 7
def zcls : List vw_C := [(zcn 0, zF 0, 9), (zcn 1, zF 1, 3), (zcn 2, zF 2, 2), (zcn 3, zF 3, 10), (zcn 4, zF 4, 35)]
theorem zix (i : Nat) {w : Jvm.Cond} (h : tables_1[i]? = some w) (g : (zgd w || znst w) = true) : w ∈ zTs := zTs_in (List.mem_append_right _ (List.mem_of_getElem? h)) g
theorem zix2 (i : Nat) {w : Jvm.Cond} (h : (k2_sels lw_privs)[i]? = some w) (g : (zgd w || znst w) = true) : w ∈ zTs := zTs_in (List.mem_append_left _ (List.mem_of_getElem? h)) g
def zfdP (q : Nat × Nat × Nat × Nat × Nat) : Prop := q.2.2.1 < 5 ∧ q.2.2.2.1 < zNf q.2.2.1 ∧ zfk q.2.2.1 q.2.2.2.1 = q.2.2.2.2 ∧ (zF q.2.2.1 q.2.2.2.1).1 = zcn q.2.2.1 ∧ (Jvm.Cond.fieldLink (zcn q.1) q.2.1 (zcn q.2.2.1) (zF q.2.2.1 q.2.2.2.1).2.1 (zF q.2.2.1 q.2.2.2.1).2.2.1 ∈ zTs ∨ (q.2.2.2.2 = 0 ∧ Jvm.Cond.fieldLinkNest (zcn q.1) q.2.1 (zcn q.2.2.1) (zF q.2.2.1 q.2.2.2.1).2.1 (zF q.2.2.1 q.2.2.2.1).2.2.1 "SeenFromBehind" ∈ zTs))
set_option maxRecDepth 100000 in
theorem zfd_ok_0 : zfdP (0, 9, 0, 0, 2) := ⟨by decide, by decide, by decide, by decide +kernel, Or.inl (zix1 22 rfl rfl)⟩
set_option maxRecDepth 100000 in
theorem zfd_ok_1 : zfdP (0, 15, 0, 1, 2) := ⟨by decide, by decide, by decide, by decide +kernel, Or.inl (zix1 23 rfl rfl)⟩
set_option maxRecDepth 100000 in
theorem zfd_ok_2 : zfdP (0, 18, 0, 2, 2) := ⟨by decide, by decide, by decide, by decide +kernel, Or.inl (zix1 24 rfl rfl)⟩
set_option maxRecDepth 100000 in
theorem zfd_ok_3 : zfdP (0, 21, 0, 3, 2) := ⟨by decide, by decide, by decide, by decide +kernel, Or.inl (zix1 25 rfl rfl)⟩
set_option maxRecDepth 100000 in
theorem zfd_ok_4 : zfdP (0, 24, 0, 4, 2) := ⟨by decide, by decide, by decide, by decide +kernel, Or.inl (zix1 26 rfl rfl)⟩
set_option maxRecDepth 100000 in
theorem zfd_ok_5 : zfdP (0, 27, 0, 5, 0) := ⟨by decide, by decide, by decide, by decide +kernel, Or.inl (zix1 27 rfl rfl)⟩
set_option maxRecDepth 100000 in
theorem zfd_ok_6 : zfdP (0, 31, 0, 6, 0) := ⟨by decide, by decide, by decide, by decide +kernel, Or.inl (zix1 30 rfl rfl)⟩
set_option maxRecDepth 100000 in
theorem zfd_ok_7 : zfdP (0, 34, 0, 7, 0) := ⟨by decide, by decide, by decide, by decide +kernel, Or.inl (zix1 32 rfl rfl)⟩
set_option maxRecDepth 100000 in
theorem zfd_ok_8 : zfdP (0, 37, 0, 8, 0) := ⟨by decide, by decide, by decide, by decide +kernel, Or.inl (zix1 34 rfl rfl)⟩
set_option maxRecDepth 100000 in
theorem zfd_ok_9 : zfdP (1, 11, 1, 0, 2) := ⟨by decide, by decide, by decide, by decide +kernel, Or.inl (zix1 65 rfl rfl)⟩
set_option maxRecDepth 100000 in
theorem zfd_ok_10 : zfdP (1, 17, 1, 1, 0) := ⟨by decide, by decide, by decide, by decide +kernel, Or.inl (zix1 66 rfl rfl)⟩
set_option maxRecDepth 100000 in
theorem zfd_ok_11 : zfdP (1, 21, 1, 2, 0) := ⟨by decide, by decide, by decide, by decide +kernel, Or.inl (zix1 68 rfl rfl)⟩
set_option maxRecDepth 100000 in
theorem zfd_ok_12 : zfdP (2, 9, 2, 0, 2) := ⟨by decide, by decide, by decide, by decide +kernel, Or.inl (zix1 82 rfl rfl)⟩
set_option maxRecDepth 100000 in
theorem zfd_ok_13 : zfdP (2, 15, 2, 1, 0) := ⟨by decide, by decide, by decide, by decide +kernel, Or.inl (zix1 83 rfl rfl)⟩
set_option maxRecDepth 100000 in
theorem zfd_ok_14 : zfdP (2, 67, 0, 5, 0) := ⟨by decide, by decide, by decide, by decide +kernel, Or.inr ⟨by decide, zix1 29 rfl rfl⟩⟩
set_option maxRecDepth 100000 in
theorem zfd_ok_15 : zfdP (3, 10, 3, 0, 2) := ⟨by decide, by decide, by decide, by decide +kernel, Or.inl (zix1 90 rfl rfl)⟩
set_option maxRecDepth 100000 in
theorem zfd_ok_16 : zfdP (3, 16, 3, 1, 2) := ⟨by decide, by decide, by decide, by decide +kernel, Or.inl (zix1 91 rfl rfl)⟩
set_option maxRecDepth 100000 in
theorem zfd_ok_17 : zfdP (3, 19, 3, 2, 2) := ⟨by decide, by decide, by decide, by decide +kernel, Or.inl (zix1 92 rfl rfl)⟩
set_option maxRecDepth 100000 in
theorem zfd_ok_18 : zfdP (3, 23, 3, 3, 2) := ⟨by decide, by decide, by decide, by decide +kernel, Or.inl (zix1 93 rfl rfl)⟩
set_option maxRecDepth 100000 in
theorem zfd_ok_19 : zfdP (3, 26, 3, 4, 1) := ⟨by decide, by decide, by decide, by decide +kernel, Or.inl (zix1 94 rfl rfl)⟩
set_option maxRecDepth 100000 in
theorem zfd_ok_20 : zfdP (3, 33, 3, 5, 2) := ⟨by decide, by decide, by decide, by decide +kernel, Or.inl (zix1 95 rfl rfl)⟩
set_option maxRecDepth 100000 in
theorem zfd_ok_21 : zfdP (3, 40, 3, 6, 2) := ⟨by decide, by decide, by decide, by decide +kernel, Or.inl (zix1 96 rfl rfl)⟩
set_option maxRecDepth 100000 in
theorem zfd_ok_22 : zfdP (3, 44, 3, 7, 2) := ⟨by decide, by decide, by decide, by decide +kernel, Or.inl (zix1 97 rfl rfl)⟩
set_option maxRecDepth 100000 in
theorem zfd_ok_23 : zfdP (3, 48, 3, 8, 0) := ⟨by decide, by decide, by decide, by decide +kernel, Or.inl (zix1 98 rfl rfl)⟩
set_option maxRecDepth 100000 in
theorem zfd_ok_24 : zfdP (3, 52, 3, 9, 2) := ⟨by decide, by decide, by decide, by decide +kernel, Or.inl (zix1 99 rfl rfl)⟩
set_option maxRecDepth 100000 in
theorem zfd_ok_25 : zfdP (3, 59, 2, 1, 0) := ⟨by decide, by decide, by decide, by decide +kernel, Or.inr ⟨by decide, zix1 84 rfl rfl⟩⟩
set_option maxRecDepth 100000 in
theorem zfd_ok_26 : zfdP (3, 112, 0, 5, 0) := ⟨by decide, by decide, by decide, by decide +kernel, Or.inr ⟨by decide, zix1 28 rfl rfl⟩⟩
set_option maxRecDepth 100000 in
theorem zfd_ok_27 : zfdP (3, 146, 1, 1, 0) := ⟨by decide, by decide, by decide, by decide +kernel, Or.inr ⟨by decide, zix1 67 rfl rfl⟩⟩
set_option maxRecDepth 100000 in
theorem zfd_ok_28 : zfdP (3, 174, 0, 8, 0) := ⟨by decide, by decide, by decide, by decide +kernel, Or.inr ⟨by decide, zix1 35 rfl rfl⟩⟩
set_option maxRecDepth 100000 in
theorem zfd_ok_29 : zfdP (3, 245, 0, 7, 0) := ⟨by decide, by decide, by decide, by decide +kernel, Or.inr ⟨by decide, zix1 33 rfl rfl⟩⟩
set_option maxRecDepth 100000 in
theorem zfd_ok_30 : zfdP (3, 266, 0, 6, 0) := ⟨by decide, by decide, by decide, by decide +kernel, Or.inr ⟨by decide, zix1 31 rfl rfl⟩⟩
set_option maxRecDepth 100000 in
theorem zfd_ok_31 : zfdP (4, 7, 4, 1, 2) := ⟨by decide, by decide, by decide, by decide +kernel, Or.inl (zixc 136 rfl rfl)⟩
set_option maxRecDepth 100000 in
theorem zfd_ok_32 : zfdP (4, 13, 4, 2, 2) := ⟨by decide, by decide, by decide, by decide +kernel, Or.inl (zixc 137 rfl rfl)⟩
set_option maxRecDepth 100000 in
theorem zfd_ok_33 : zfdP (4, 16, 4, 3, 2) := ⟨by decide, by decide, by decide, by decide +kernel, Or.inl (zixc 138 rfl rfl)⟩
set_option maxRecDepth 100000 in
theorem zfd_ok_34 : zfdP (4, 19, 4, 4, 2) := ⟨by decide, by decide, by decide, by decide +kernel, Or.inl (zixc 139 rfl rfl)⟩
set_option maxRecDepth 100000 in
theorem zfd_ok_35 : zfdP (4, 22, 4, 5, 2) := ⟨by decide, by decide, by decide, by decide +kernel, Or.inl (zixc 140 rfl rfl)⟩
set_option maxRecDepth 100000 in
theorem zfd_ok_36 : zfdP (4, 25, 4, 8, 2) := ⟨by decide, by decide, by decide, by decide +kernel, Or.inl (zixc 143 rfl rfl)⟩
set_option maxRecDepth 100000 in
theorem zfd_ok_37 : zfdP (4, 28, 4, 11, 2) := ⟨by decide, by decide, by decide, by decide +kernel, Or.inl (zixc 146 rfl rfl)⟩
set_option maxRecDepth 100000 in
theorem zfd_ok_38 : zfdP (4, 31, 4, 16, 2) := ⟨by decide, by decide, by decide, by decide +kernel, Or.inl (zixc 151 rfl rfl)⟩
set_option maxRecDepth 100000 in
theorem zfd_ok_39 : zfdP (4, 34, 4, 17, 2) := ⟨by decide, by decide, by decide, by decide +kernel, Or.inl (zixc 152 rfl rfl)⟩
set_option maxRecDepth 100000 in
theorem zfd_ok_40 : zfdP (4, 37, 4, 18, 2) := ⟨by decide, by decide, by decide, by decide +kernel, Or.inl (zixc 153 rfl rfl)⟩
set_option maxRecDepth 100000 in
theorem zfd_ok_41 : zfdP (4, 40, 4, 19, 2) := ⟨by decide, by decide, by decide, by decide +kernel, Or.inl (zixc 154 rfl rfl)⟩
set_option maxRecDepth 100000 in
theorem zfd_ok_42 : zfdP (4, 43, 4, 20, 2) := ⟨by decide, by decide, by decide, by decide +kernel, Or.inl (zixc 155 rfl rfl)⟩
set_option maxRecDepth 100000 in
theorem zfd_ok_43 : zfdP (4, 46, 4, 25, 2) := ⟨by decide, by decide, by decide, by decide +kernel, Or.inl (zixc 160 rfl rfl)⟩
set_option maxRecDepth 100000 in
theorem zfd_ok_44 : zfdP (4, 49, 4, 26, 2) := ⟨by decide, by decide, by decide, by decide +kernel, Or.inl (zixc 161 rfl rfl)⟩
set_option maxRecDepth 100000 in
theorem zfd_ok_45 : zfdP (4, 52, 4, 28, 2) := ⟨by decide, by decide, by decide, by decide +kernel, Or.inl (zixc 163 rfl rfl)⟩
set_option maxRecDepth 100000 in
theorem zfd_ok_46 : zfdP (4, 55, 4, 31, 2) := ⟨by decide, by decide, by decide, by decide +kernel, Or.inl (zixc 166 rfl rfl)⟩
set_option maxRecDepth 100000 in
theorem zfd_ok_47 : zfdP (4, 58, 4, 33, 2) := ⟨by decide, by decide, by decide, by decide +kernel, Or.inl (zixc 168 rfl rfl)⟩
set_option maxRecDepth 100000 in
theorem zfd_ok_48 : zfdP (4, 61, 4, 7, 0) := ⟨by decide, by decide, by decide, by decide +kernel, Or.inl (zixc 142 rfl rfl)⟩
set_option maxRecDepth 100000 in
theorem zfd_ok_49 : zfdP (4, 65, 4, 0, 0) := ⟨by decide, by decide, by decide, by decide +kernel, Or.inl (zixc 135 rfl rfl)⟩
set_option maxRecDepth 100000 in
theorem zfd_ok_50 : zfdP (4, 100, 4, 9, 0) := ⟨by decide, by decide, by decide, by decide +kernel, Or.inl (zixc 144 rfl rfl)⟩
set_option maxRecDepth 100000 in
theorem zfd_ok_51 : zfdP (4, 107, 4, 6, 0) := ⟨by decide, by decide, by decide, by decide +kernel, Or.inl (zixc 141 rfl rfl)⟩
set_option maxRecDepth 100000 in
theorem zfd_ok_52 : zfdP (4, 110, 4, 10, 0) := ⟨by decide, by decide, by decide, by decide +kernel, Or.inl (zixc 145 rfl rfl)⟩
set_option maxRecDepth 100000 in
theorem zfd_ok_53 : zfdP (4, 126, 4, 12, 0) := ⟨by decide, by decide, by decide, by decide +kernel, Or.inl (zixc 147 rfl rfl)⟩
set_option maxRecDepth 100000 in
theorem zfd_ok_54 : zfdP (4, 129, 4, 13, 0) := ⟨by decide, by decide, by decide, by decide +kernel, Or.inl (zixc 148 rfl rfl)⟩
set_option maxRecDepth 100000 in
theorem zfd_ok_55 : zfdP (4, 132, 4, 14, 1) := ⟨by decide, by decide, by decide, by decide +kernel, Or.inl (zixc 149 rfl rfl)⟩
set_option maxRecDepth 100000 in
theorem zfd_ok_56 : zfdP (4, 147, 4, 15, 0) := ⟨by decide, by decide, by decide, by decide +kernel, Or.inl (zixc 150 rfl rfl)⟩
set_option maxRecDepth 100000 in
theorem zfd_ok_57 : zfdP (4, 177, 4, 27, 0) := ⟨by decide, by decide, by decide, by decide +kernel, Or.inl (zixc 162 rfl rfl)⟩
set_option maxRecDepth 100000 in
theorem zfd_ok_58 : zfdP (4, 180, 4, 23, 1) := ⟨by decide, by decide, by decide, by decide +kernel, Or.inl (zixc 158 rfl rfl)⟩
set_option maxRecDepth 100000 in
theorem zfd_ok_59 : zfdP (4, 183, 4, 24, 3) := ⟨by decide, by decide, by decide, by decide +kernel, Or.inl (zixc 159 rfl rfl)⟩
set_option maxRecDepth 100000 in
theorem zfd_ok_60 : zfdP (4, 186, 4, 22, 0) := ⟨by decide, by decide, by decide, by decide +kernel, Or.inl (zixc 157 rfl rfl)⟩
set_option maxRecDepth 100000 in
theorem zfd_ok_61 : zfdP (4, 196, 4, 21, 1) := ⟨by decide, by decide, by decide, by decide +kernel, Or.inl (zixc 156 rfl rfl)⟩
set_option maxRecDepth 100000 in
theorem zfd_ok_62 : zfdP (4, 225, 4, 30, 0) := ⟨by decide, by decide, by decide, by decide +kernel, Or.inl (zixc 165 rfl rfl)⟩
set_option maxRecDepth 100000 in
theorem zfd_ok_63 : zfdP (4, 228, 4, 29, 0) := ⟨by decide, by decide, by decide, by decide +kernel, Or.inl (zixc 164 rfl rfl)⟩
set_option maxRecDepth 100000 in
theorem zfd_ok_64 : zfdP (4, 237, 4, 32, 0) := ⟨by decide, by decide, by decide, by decide +kernel, Or.inl (zixc 167 rfl rfl)⟩
set_option maxRecDepth 100000 in
theorem zfd_ok_65 : zfdP (4, 266, 4, 34, 0) := ⟨by decide, by decide, by decide, by decide +kernel, Or.inl (zixc 169 rfl rfl)⟩
theorem zfd_ok_c0 : ∀ q ∈ [(0, 9, 0, 0, 2), (0, 15, 0, 1, 2), (0, 18, 0, 2, 2), (0, 21, 0, 3, 2), (0, 24, 0, 4, 2), (0, 27, 0, 5, 0), (0, 31, 0, 6, 0), (0, 34, 0, 7, 0), (0, 37, 0, 8, 0), (1, 11, 1, 0, 2), (1, 17, 1, 1, 0), (1, 21, 1, 2, 0), (2, 9, 2, 0, 2), (2, 15, 2, 1, 0), (2, 67, 0, 5, 0), (3, 10, 3, 0, 2), (3, 16, 3, 1, 2), (3, 19, 3, 2, 2), (3, 23, 3, 3, 2), (3, 26, 3, 4, 1)], zfdP q := List.forall_mem_cons.mpr ⟨zfd_ok_0, List.forall_mem_cons.mpr ⟨zfd_ok_1, List.forall_mem_cons.mpr ⟨zfd_ok_2, List.forall_mem_cons.mpr ⟨zfd_ok_3, List.forall_mem_cons.mpr ⟨zfd_ok_4, List.forall_mem_cons.mpr ⟨zfd_ok_5, List.forall_mem_cons.mpr ⟨zfd_ok_6, List.forall_mem_cons.mpr ⟨zfd_ok_7, List.forall_mem_cons.mpr ⟨zfd_ok_8, List.forall_mem_cons.mpr ⟨zfd_ok_9, List.forall_mem_cons.mpr ⟨zfd_ok_10, List.forall_mem_cons.mpr ⟨zfd_ok_11, List.forall_mem_cons.mpr ⟨zfd_ok_12, List.forall_mem_cons.mpr ⟨zfd_ok_13, List.forall_mem_cons.mpr ⟨zfd_ok_14, List.forall_mem_cons.mpr ⟨zfd_ok_15, List.forall_mem_cons.mpr ⟨zfd_ok_16, List.forall_mem_cons.mpr ⟨zfd_ok_17, List.forall_mem_cons.mpr ⟨zfd_ok_18, List.forall_mem_cons.mpr ⟨zfd_ok_19, fun _ h => absurd h List.not_mem_nil⟩⟩⟩⟩⟩⟩⟩⟩⟩⟩⟩⟩⟩⟩⟩⟩⟩⟩⟩⟩
theorem zfd_ok_c1 : ∀ q ∈ [(3, 33, 3, 5, 2), (3, 40, 3, 6, 2), (3, 44, 3, 7, 2), (3, 48, 3, 8, 0), (3, 52, 3, 9, 2), (3, 59, 2, 1, 0), (3, 112, 0, 5, 0), (3, 146, 1, 1, 0), (3, 174, 0, 8, 0), (3, 245, 0, 7, 0), (3, 266, 0, 6, 0), (4, 7, 4, 1, 2), (4, 13, 4, 2, 2), (4, 16, 4, 3, 2), (4, 19, 4, 4, 2), (4, 22, 4, 5, 2), (4, 25, 4, 8, 2), (4, 28, 4, 11, 2), (4, 31, 4, 16, 2), (4, 34, 4, 17, 2)], zfdP q := List.forall_mem_cons.mpr ⟨zfd_ok_20, List.forall_mem_cons.mpr ⟨zfd_ok_21, List.forall_mem_cons.mpr ⟨zfd_ok_22, List.forall_mem_cons.mpr ⟨zfd_ok_23, List.forall_mem_cons.mpr ⟨zfd_ok_24, List.forall_mem_cons.mpr ⟨zfd_ok_25, List.forall_mem_cons.mpr ⟨zfd_ok_26, List.forall_mem_cons.mpr ⟨zfd_ok_27, List.forall_mem_cons.mpr ⟨zfd_ok_28, List.forall_mem_cons.mpr ⟨zfd_ok_29, List.forall_mem_cons.mpr ⟨zfd_ok_30, List.forall_mem_cons.mpr ⟨zfd_ok_31, List.forall_mem_cons.mpr ⟨zfd_ok_32, List.forall_mem_cons.mpr ⟨zfd_ok_33, List.forall_mem_cons.mpr ⟨zfd_ok_34, List.forall_mem_cons.mpr ⟨zfd_ok_35, List.forall_mem_cons.mpr ⟨zfd_ok_36, List.forall_mem_cons.mpr ⟨zfd_ok_37, List.forall_mem_cons.mpr ⟨zfd_ok_38, List.forall_mem_cons.mpr ⟨zfd_ok_39, fun _ h => absurd h List.not_mem_nil⟩⟩⟩⟩⟩⟩⟩⟩⟩⟩⟩⟩⟩⟩⟩⟩⟩⟩⟩⟩
theorem zfd_ok_c2 : ∀ q ∈ [(4, 37, 4, 18, 2), (4, 40, 4, 19, 2), (4, 43, 4, 20, 2), (4, 46, 4, 25, 2), (4, 49, 4, 26, 2), (4, 52, 4, 28, 2), (4, 55, 4, 31, 2), (4, 58, 4, 33, 2), (4, 61, 4, 7, 0), (4, 65, 4, 0, 0), (4, 100, 4, 9, 0), (4, 107, 4, 6, 0), (4, 110, 4, 10, 0), (4, 126, 4, 12, 0), (4, 129, 4, 13, 0), (4, 132, 4, 14, 1), (4, 147, 4, 15, 0), (4, 177, 4, 27, 0), (4, 180, 4, 23, 1), (4, 183, 4, 24, 3)], zfdP q := List.forall_mem_cons.mpr ⟨zfd_ok_40, List.forall_mem_cons.mpr ⟨zfd_ok_41, List.forall_mem_cons.mpr ⟨zfd_ok_42, List.forall_mem_cons.mpr ⟨zfd_ok_43, List.forall_mem_cons.mpr ⟨zfd_ok_44, List.forall_mem_cons.mpr ⟨zfd_ok_45, List.forall_mem_cons.mpr ⟨zfd_ok_46, List.forall_mem_cons.mpr ⟨zfd_ok_47, List.forall_mem_cons.mpr ⟨zfd_ok_48, List.forall_mem_cons.mpr ⟨zfd_ok_49, List.forall_mem_cons.mpr ⟨zfd_ok_50, List.forall_mem_cons.mpr ⟨zfd_ok_51, List.forall_mem_cons.mpr ⟨zfd_ok_52, List.forall_mem_cons.mpr ⟨zfd_ok_53, List.forall_mem_cons.mpr ⟨zfd_ok_54, List.forall_mem_cons.mpr ⟨zfd_ok_55, List.forall_mem_cons.mpr ⟨zfd_ok_56, List.forall_mem_cons.mpr ⟨zfd_ok_57, List.forall_mem_cons.mpr ⟨zfd_ok_58, List.forall_mem_cons.mpr ⟨zfd_ok_59, fun _ h => absurd h List.not_mem_nil⟩⟩⟩⟩⟩⟩⟩⟩⟩⟩⟩⟩⟩⟩⟩⟩⟩⟩⟩⟩
theorem zfd_ok_c3 : ∀ q ∈ [(4, 186, 4, 22, 0), (4, 196, 4, 21, 1), (4, 225, 4, 30, 0), (4, 228, 4, 29, 0), (4, 237, 4, 32, 0), (4, 266, 4, 34, 0)], zfdP q := List.forall_mem_cons.mpr ⟨zfd_ok_60, List.forall_mem_cons.mpr ⟨zfd_ok_61, List.forall_mem_cons.mpr ⟨zfd_ok_62, List.forall_mem_cons.mpr ⟨zfd_ok_63, List.forall_mem_cons.mpr ⟨zfd_ok_64, List.forall_mem_cons.mpr ⟨zfd_ok_65, fun _ h => absurd h List.not_mem_nil⟩⟩⟩⟩⟩⟩
theorem zfd_ok : ∀ q ∈ zfdT, zfdP q := List.forall_mem_append.mpr ⟨zfd_ok_c0, List.forall_mem_append.mpr ⟨zfd_ok_c1, List.forall_mem_append.mpr ⟨zfd_ok_c2, zfd_ok_c3⟩⟩⟩
def zcoP (q : Nat × Nat × Int32) : Prop := Jvm.Cond.constant (zcn q.1) q.2.1 q.2.2 ∈ zTs
set_option maxRecDepth 100000 in
theorem zco_ok_0 : zcoP (6, 265, 1431655765) := zixb 236 rfl rfl
set_option maxRecDepth 100000 in
theorem zco_ok_1 : zcoP (6, 266, 858993459) := zixb 237 rfl rfl
set_option maxRecDepth 100000 in
theorem zco_ok_2 : zcoP (6, 267, 252645135) := zixb 238 rfl rfl
set_option maxRecDepth 100000 in
theorem zco_ok_3 : zcoP (3, 272, 1103515245) := zixc 107 rfl rfl
set_option maxRecDepth 100000 in
theorem zco_ok_4 : zcoP (3, 273, 2147483647) := zixc 111 rfl rfl
set_option maxRecDepth 100000 in
theorem zco_ok_5 : zcoP (3, 274, 65536) := zixc 112 rfl rfl
set_option maxRecDepth 100000 in
theorem zco_ok_6 : zcoP (4, 269, 1103515245) := zixe 90 rfl rfl
set_option maxRecDepth 100000 in
theorem zco_ok_7 : zcoP (4, 270, 2147483647) := zixe 91 rfl rfl
set_option maxRecDepth 100000 in
theorem zco_ok_8 : zcoP (4, 271, 65536) := zixe 92 rfl rfl
theorem zco_ok_c0 : ∀ q ∈ [(6, 265, 1431655765), (6, 266, 858993459), (6, 267, 252645135), (3, 272, 1103515245), (3, 273, 2147483647), (3, 274, 65536), (4, 269, 1103515245), (4, 270, 2147483647), (4, 271, 65536)], zcoP q := List.forall_mem_cons.mpr ⟨zco_ok_0, List.forall_mem_cons.mpr ⟨zco_ok_1, List.forall_mem_cons.mpr ⟨zco_ok_2, List.forall_mem_cons.mpr ⟨zco_ok_3, List.forall_mem_cons.mpr ⟨zco_ok_4, List.forall_mem_cons.mpr ⟨zco_ok_5, List.forall_mem_cons.mpr ⟨zco_ok_6, List.forall_mem_cons.mpr ⟨zco_ok_7, List.forall_mem_cons.mpr ⟨zco_ok_8, fun _ h => absurd h List.not_mem_nil⟩⟩⟩⟩⟩⟩⟩⟩⟩
theorem zco_ok : ∀ q ∈ zcoT, zcoP q := zco_ok_c0
def zclP (q : Nat × Nat × Int64) : Prop := Jvm.Cond.constantLong (zcn q.1) q.2.1 q.2.2 ∈ zTs
set_option maxRecDepth 100000 in
theorem zcl_ok_0 : zclP (3, 223, 4000000000000000000) := zixc 21 rfl rfl
set_option maxRecDepth 100000 in
theorem zcl_ok_1 : zclP (4, 140, 48) := zixd 32 rfl rfl
set_option maxRecDepth 100000 in
theorem zcl_ok_2 : zclP (4, 142, 57) := zixd 33 rfl rfl
set_option maxRecDepth 100000 in
theorem zcl_ok_3 : zclP (4, 160, 60) := zixd 65 rfl rfl
set_option maxRecDepth 100000 in
theorem zcl_ok_4 : zclP (4, 78, 5) := zixd 89 rfl rfl
set_option maxRecDepth 100000 in
theorem zcl_ok_5 : zclP (4, 199, 6) := zixd 126 rfl rfl
set_option maxRecDepth 100000 in
theorem zcl_ok_6 : zclP (4, 76, 35) := zixd 137 rfl rfl
set_option maxRecDepth 100000 in
theorem zcl_ok_7 : zclP (4, 207, 3) := zixd 138 rfl rfl
set_option maxRecDepth 100000 in
theorem zcl_ok_8 : zclP (4, 257, 4000000000000000000) := zixe 16 rfl rfl
set_option maxRecDepth 100000 in
theorem zcl_ok_9 : zclP (4, 275, 11) := zixe 97 rfl rfl
set_option maxRecDepth 100000 in
theorem zcl_ok_10 : zclP (4, 277, 16) := zixe 98 rfl rfl
theorem zcl_ok_c0 : ∀ q ∈ [(3, 223, 4000000000000000000), (4, 140, 48), (4, 142, 57), (4, 160, 60), (4, 78, 5), (4, 199, 6), (4, 76, 35), (4, 207, 3), (4, 257, 4000000000000000000), (4, 275, 11), (4, 277, 16)], zclP q := List.forall_mem_cons.mpr ⟨zcl_ok_0, List.forall_mem_cons.mpr ⟨zcl_ok_1, List.forall_mem_cons.mpr ⟨zcl_ok_2, List.forall_mem_cons.mpr ⟨zcl_ok_3, List.forall_mem_cons.mpr ⟨zcl_ok_4, List.forall_mem_cons.mpr ⟨zcl_ok_5, List.forall_mem_cons.mpr ⟨zcl_ok_6, List.forall_mem_cons.mpr ⟨zcl_ok_7, List.forall_mem_cons.mpr ⟨zcl_ok_8, List.forall_mem_cons.mpr ⟨zcl_ok_9, List.forall_mem_cons.mpr ⟨zcl_ok_10, fun _ h => absurd h List.not_mem_nil⟩⟩⟩⟩⟩⟩⟩⟩⟩⟩⟩
theorem zcl_ok : ∀ q ∈ zclT, zclP q := zcl_ok_c0
def zknP (q : Nat × Nat × Nat) : Prop := Jvm.Cond.classLink (zcn q.1) q.2.1 (zcn q.2.2) ∈ zTs
set_option maxRecDepth 100000 in
theorem zkn_ok_0 : zknP (5, 7, 3) := zix1 8 rfl rfl
set_option maxRecDepth 100000 in
theorem zkn_ok_1 : zknP (3, 7, 0) := zix1 16 rfl rfl
set_option maxRecDepth 100000 in
theorem zkn_ok_2 : zknP (3, 30, 1) := zix1 57 rfl rfl
set_option maxRecDepth 100000 in
theorem zkn_ok_3 : zknP (1, 9, 0) := zix1 63 rfl rfl
set_option maxRecDepth 100000 in
theorem zkn_ok_4 : zknP (3, 37, 2) := zix1 76 rfl rfl
set_option maxRecDepth 100000 in
theorem zkn_ok_5 : zknP (5, 10, 4) := zixc 129 rfl rfl
theorem zkn_ok_c0 : ∀ q ∈ [(5, 7, 3), (3, 7, 0), (3, 30, 1), (1, 9, 0), (3, 37, 2), (5, 10, 4)], zknP q := List.forall_mem_cons.mpr ⟨zkn_ok_0, List.forall_mem_cons.mpr ⟨zkn_ok_1, List.forall_mem_cons.mpr ⟨zkn_ok_2, List.forall_mem_cons.mpr ⟨zkn_ok_3, List.forall_mem_cons.mpr ⟨zkn_ok_4, List.forall_mem_cons.mpr ⟨zkn_ok_5, fun _ h => absurd h List.not_mem_nil⟩⟩⟩⟩⟩⟩
theorem zkn_ok : ∀ q ∈ zknT, zknP q := zkn_ok_c0
def zbiP (q : Nat × Nat × Nat) : Prop := match q.2.2 with | 1 => Jvm.Cond.methodLink (zcn q.1) q.2.1 Lib.objectInit ∈ zTs | 2 => Jvm.Cond.methodLink (zcn q.1) q.2.1 Lib.Math.min.name ∈ zTs | _ => Jvm.Cond.methodLink (zcn q.1) q.2.1 Lib.Math.abs.name ∈ zTs
set_option maxRecDepth 100000 in
theorem zbi_ok_0 : zbiP (3, 1, 1) := zix1 13 rfl rfl
set_option maxRecDepth 100000 in
theorem zbi_ok_1 : zbiP (0, 3, 1) := zix1 21 rfl rfl
set_option maxRecDepth 100000 in
theorem zbi_ok_2 : zbiP (1, 3, 1) := zix1 62 rfl rfl
set_option maxRecDepth 100000 in
theorem zbi_ok_3 : zbiP (2, 3, 1) := zix1 81 rfl rfl
set_option maxRecDepth 100000 in
theorem zbi_ok_4 : zbiP (0, 103, 2) := zixb 12 rfl rfl
set_option maxRecDepth 100000 in
theorem zbi_ok_5 : zbiP (1, 33, 2) := zixb 96 rfl rfl
set_option maxRecDepth 100000 in
theorem zbi_ok_6 : zbiP (0, 65, 3) := zixc 47 rfl rfl
set_option maxRecDepth 100000 in
theorem zbi_ok_7 : zbiP (4, 1, 1) := zixc 134 rfl rfl
theorem zbi_ok_c0 : ∀ q ∈ [(3, 1, 1), (0, 3, 1), (1, 3, 1), (2, 3, 1), (0, 103, 2), (1, 33, 2), (0, 65, 3), (4, 1, 1)], zbiP q := List.forall_mem_cons.mpr ⟨zbi_ok_0, List.forall_mem_cons.mpr ⟨zbi_ok_1, List.forall_mem_cons.mpr ⟨zbi_ok_2, List.forall_mem_cons.mpr ⟨zbi_ok_3, List.forall_mem_cons.mpr ⟨zbi_ok_4, List.forall_mem_cons.mpr ⟨zbi_ok_5, List.forall_mem_cons.mpr ⟨zbi_ok_6, List.forall_mem_cons.mpr ⟨zbi_ok_7, fun _ h => absurd h List.not_mem_nil⟩⟩⟩⟩⟩⟩⟩⟩
theorem zbi_ok : ∀ q ∈ zbiT, zbiP q := zbi_ok_c0
set_option maxRecDepth 100000 in
theorem zobj1 : Jvm.Cond.instanceMethod Lib.objectInit ∈ zTs := zix1 14 rfl rfl
set_option maxRecDepth 100000 in
theorem zobj2 : Jvm.Cond.code Lib.objectInit ⟨#[0xb1]⟩ 1 none ∈ zTs := zix 15 (by decide +kernel) rfl
set_option maxRecDepth 100000 in
theorem zmin1 : Jvm.Cond.static Lib.Math.min.name ∈ zTs := zixb 13 rfl rfl
set_option maxRecDepth 100000 in
theorem zmin2 : Jvm.Cond.code Lib.Math.min.name Lib.Math.min.code 2 (some .int) ∈ zTs := zix 254 (by decide +kernel) rfl
set_option maxRecDepth 100000 in
theorem zabs1 : Jvm.Cond.static Lib.Math.abs.name ∈ zTs := zixc 48 rfl rfl
set_option maxRecDepth 100000 in
theorem zabs2 : Jvm.Cond.code Lib.Math.abs.name Lib.Math.abs.code 1 (some .int) ∈ zTs := zix 529 (by decide +kernel) rfl
set_option maxRecDepth 100000 in
theorem zmath : Jvm.Cond.initialized "java/lang/Math" ∈ zTs := zix1 6 rfl rfl
set_option maxRecDepth 100000 in
theorem zarri : Jvm.Cond.arrayClass .int ∈ zTs := zix1 55 rfl rfl
set_option maxRecDepth 100000 in
theorem zarrh : Jvm.Cond.arrayOver (.object "SeenFromBehind$Hill") ∈ zTs := zix1 56 rfl rfl
theorem zuw_0 : ∀ w ∈ u_ws (zcn 0) (zF 0) 9, w ∈ zTs := by
  intro w hw
  obtain ⟨k, hk, rfl⟩ := List.mem_map.mp hw
  have hk := List.mem_range.mp hk
  match k, hk with
  | 0, _ => exact zix1 36 rfl rfl
  | 1, _ => exact zix1 38 rfl rfl
  | 2, _ => exact zix1 40 rfl rfl
  | 3, _ => exact zix1 42 rfl rfl
  | 4, _ => exact zix1 44 rfl rfl
  | 5, _ => exact zix1 46 rfl rfl
  | 6, _ => exact zix1 48 rfl rfl
  | 7, _ => exact zix1 50 rfl rfl
  | 8, _ => exact zix1 52 rfl rfl
  | n + 9, h => exact absurd h (by omega)
theorem zty_0 : ∀ k, k < 9 → parseFieldDescriptor (zF 0 k).2.2.1 = some (zTy 0 k) := by decide +kernel
theorem znm_0 : ∀ a, a < 9 → ∀ b, b < 9 → a ≠ b → (zF 0 a).2.1 ≠ (zF 0 b).2.1 := by decide +kernel
set_option maxRecDepth 100000 in
theorem zis_0 : Jvm.Cond.instantiable (zcn 0) 9 ∈ zTs := zix1 17 rfl rfl
set_option maxRecDepth 100000 in
theorem zit_0 : Jvm.Cond.initialized (zcn 0) ∈ zTs := zix1 2 rfl rfl
theorem zuw_1 : ∀ w ∈ u_ws (zcn 1) (zF 1) 3, w ∈ zTs := by
  intro w hw
  obtain ⟨k, hk, rfl⟩ := List.mem_map.mp hw
  have hk := List.mem_range.mp hk
  match k, hk with
  | 0, _ => exact zix1 69 rfl rfl
  | 1, _ => exact zix1 71 rfl rfl
  | 2, _ => exact zix1 73 rfl rfl
  | n + 3, h => exact absurd h (by omega)
theorem zty_1 : ∀ k, k < 3 → parseFieldDescriptor (zF 1 k).2.2.1 = some (zTy 1 k) := by decide +kernel
theorem znm_1 : ∀ a, a < 3 → ∀ b, b < 3 → a ≠ b → (zF 1 a).2.1 ≠ (zF 1 b).2.1 := by decide +kernel
set_option maxRecDepth 100000 in
theorem zis_1 : Jvm.Cond.instantiable (zcn 1) 3 ∈ zTs := zix1 58 rfl rfl
set_option maxRecDepth 100000 in
theorem zit_1 : Jvm.Cond.initialized (zcn 1) ∈ zTs := zix1 3 rfl rfl
theorem zuw_2 : ∀ w ∈ u_ws (zcn 2) (zF 2) 2, w ∈ zTs := by
  intro w hw
  obtain ⟨k, hk, rfl⟩ := List.mem_map.mp hw
  have hk := List.mem_range.mp hk
  match k, hk with
  | 0, _ => exact zix1 85 rfl rfl
  | 1, _ => exact zix1 87 rfl rfl
  | n + 2, h => exact absurd h (by omega)
theorem zty_2 : ∀ k, k < 2 → parseFieldDescriptor (zF 2 k).2.2.1 = some (zTy 2 k) := by decide +kernel
theorem znm_2 : ∀ a, a < 2 → ∀ b, b < 2 → a ≠ b → (zF 2 a).2.1 ≠ (zF 2 b).2.1 := by decide +kernel
set_option maxRecDepth 100000 in
theorem zis_2 : Jvm.Cond.instantiable (zcn 2) 2 ∈ zTs := zix1 77 rfl rfl
set_option maxRecDepth 100000 in
theorem zit_2 : Jvm.Cond.initialized (zcn 2) ∈ zTs := zix1 4 rfl rfl
theorem zuw_3 : ∀ w ∈ u_ws (zcn 3) (zF 3) 10, w ∈ zTs := by
  intro w hw
  obtain ⟨k, hk, rfl⟩ := List.mem_map.mp hw
  have hk := List.mem_range.mp hk
  match k, hk with
  | 0, _ => exact zix1 100 rfl rfl
  | 1, _ => exact zix1 102 rfl rfl
  | 2, _ => exact zix1 104 rfl rfl
  | 3, _ => exact zix1 106 rfl rfl
  | 4, _ => exact zix1 108 rfl rfl
  | 5, _ => exact zix1 110 rfl rfl
  | 6, _ => exact zix1 112 rfl rfl
  | 7, _ => exact zix1 114 rfl rfl
  | 8, _ => exact zix1 116 rfl rfl
  | 9, _ => exact zix1 118 rfl rfl
  | n + 10, h => exact absurd h (by omega)
theorem zty_3 : ∀ k, k < 10 → parseFieldDescriptor (zF 3 k).2.2.1 = some (zTy 3 k) := by decide +kernel
theorem znm_3 : ∀ a, a < 10 → ∀ b, b < 10 → a ≠ b → (zF 3 a).2.1 ≠ (zF 3 b).2.1 := by decide +kernel
set_option maxRecDepth 100000 in
theorem zis_3 : Jvm.Cond.instantiable (zcn 3) 10 ∈ zTs := zix1 9 rfl rfl
set_option maxRecDepth 100000 in
theorem zit_3 : Jvm.Cond.initialized (zcn 3) ∈ zTs := zix1 1 rfl rfl
theorem zuw_4 : ∀ w ∈ u_ws (zcn 4) (zF 4) 35, w ∈ zTs := by
  intro w hw
  obtain ⟨k, hk, rfl⟩ := List.mem_map.mp hw
  have hk := List.mem_range.mp hk
  match k, hk with
  | 0, _ => exact zixc 170 rfl rfl
  | 1, _ => exact zixc 172 rfl rfl
  | 2, _ => exact zixc 174 rfl rfl
  | 3, _ => exact zixc 176 rfl rfl
  | 4, _ => exact zixc 178 rfl rfl
  | 5, _ => exact zixc 180 rfl rfl
  | 6, _ => exact zixc 182 rfl rfl
  | 7, _ => exact zixc 184 rfl rfl
  | 8, _ => exact zixc 186 rfl rfl
  | 9, _ => exact zixc 188 rfl rfl
  | 10, _ => exact zixc 190 rfl rfl
  | 11, _ => exact zixc 192 rfl rfl
  | 12, _ => exact zixc 194 rfl rfl
  | 13, _ => exact zixc 196 rfl rfl
  | 14, _ => exact zixc 198 rfl rfl
  | 15, _ => exact zixc 200 rfl rfl
  | 16, _ => exact zixc 202 rfl rfl
  | 17, _ => exact zixc 204 rfl rfl
  | 18, _ => exact zixc 206 rfl rfl
  | 19, _ => exact zixc 208 rfl rfl
  | 20, _ => exact zixc 210 rfl rfl
  | 21, _ => exact zixc 212 rfl rfl
  | 22, _ => exact zixc 214 rfl rfl
  | 23, _ => exact zixc 216 rfl rfl
  | 24, _ => exact zixc 218 rfl rfl
  | 25, _ => exact zixc 220 rfl rfl
  | 26, _ => exact zixc 222 rfl rfl
  | 27, _ => exact zixc 224 rfl rfl
  | 28, _ => exact zixc 226 rfl rfl
  | 29, _ => exact zixc 228 rfl rfl
  | 30, _ => exact zixc 230 rfl rfl
  | 31, _ => exact zixc 232 rfl rfl
  | 32, _ => exact zixc 234 rfl rfl
  | 33, _ => exact zixc 236 rfl rfl
  | 34, _ => exact zixc 238 rfl rfl
  | n + 35, h => exact absurd h (by omega)
theorem zty_4 : ∀ k, k < 35 → parseFieldDescriptor (zF 4 k).2.2.1 = some (zTy 4 k) := by decide +kernel
theorem znm_4 : ∀ a, a < 35 → ∀ b, b < 35 → a ≠ b → (zF 4 a).2.1 ≠ (zF 4 b).2.1 := by decide +kernel
set_option maxRecDepth 100000 in
theorem zis_4 : Jvm.Cond.instantiable (zcn 4) 35 ∈ zTs := zixc 130 rfl rfl
set_option maxRecDepth 100000 in
theorem zit_4 : Jvm.Cond.initialized (zcn 4) ∈ zTs := zix1 5 rfl rfl
/-- all that is known of a class -/
def zcP (c : Nat) : Prop := (∀ w ∈ u_ws (zcn c) (zF c) (zNf c), w ∈ zTs) ∧ (∀ k, k < zNf c → parseFieldDescriptor (zF c k).2.2.1 = some (zTy c k)) ∧ (∀ a, a < zNf c → ∀ b, b < zNf c → a ≠ b → (zF c a).2.1 ≠ (zF c b).2.1) ∧ Jvm.Cond.instantiable (zcn c) (zNf c) ∈ zTs ∧ Jvm.Cond.initialized (zcn c) ∈ zTs ∧ zcls[c]? = some (zcn c, zF c, zNf c)
theorem zcP_ok (c : Nat) (h : c < 5) : zcP c := by
  match c, h with
  | 0, _ => exact ⟨zuw_0, zty_0, znm_0, zis_0, zit_0, rfl⟩
  | 1, _ => exact ⟨zuw_1, zty_1, znm_1, zis_1, zit_1, rfl⟩
  | 2, _ => exact ⟨zuw_2, zty_2, znm_2, zis_2, zit_2, rfl⟩
  | 3, _ => exact ⟨zuw_3, zty_3, znm_3, zis_3, zit_3, rfl⟩
  | 4, _ => exact ⟨zuw_4, zty_4, znm_4, zis_4, zit_4, rfl⟩
  | n + 5, h => exact absurd h (by omega)
def zmP (m : zM) : Prop := Jvm.Cond.code (zn m) (zb m) (zml m) (zrt m) ∈ zTs ∧ ((zn m).cls ≠ "java/lang/invoke/MethodHandle" ∧ (zn m).cls ≠ "java/lang/invoke/VarHandle" ∧ (parseMethodDescriptor (zn m).desc).map (fun d => d.parameters.length) = some (znp m)) ∧ plainName (zn m).cls = true ∧ (zn m).cls = zcn (zo m) ∧ Jvm.Cond.initialized (zn m).cls ∈ zTs ∧ zml m ≤ 20
set_option maxRecDepth 100000 in
theorem zm_X_init : zmP m_X_init := ⟨zix1 12 rfl rfl, ⟨by decide +kernel, by decide +kernel, by decide +kernel⟩, by decide +kernel, by decide +kernel, zix1 1 rfl rfl, by decide⟩
set_option maxRecDepth 100000 in
theorem zm_H_init : zmP m_H_init := ⟨zix1 20 rfl rfl, ⟨by decide +kernel, by decide +kernel, by decide +kernel⟩, by decide +kernel, by decide +kernel, zix1 2 rfl rfl, by decide⟩
set_option maxRecDepth 100000 in
theorem zm_P_init : zmP m_P_init := ⟨zix1 61 rfl rfl, ⟨by decide +kernel, by decide +kernel, by decide +kernel⟩, by decide +kernel, by decide +kernel, zix1 3 rfl rfl, by decide⟩
set_option maxRecDepth 100000 in
theorem zm_T_init : zmP m_T_init := ⟨zix1 80 rfl rfl, ⟨by decide +kernel, by decide +kernel, by decide +kernel⟩, by decide +kernel, by decide +kernel, zix1 4 rfl rfl, by decide⟩
set_option maxRecDepth 100000 in
theorem zm_X_feed : zmP m_X_feed := ⟨zix1 124 rfl rfl, ⟨by decide +kernel, by decide +kernel, by decide +kernel⟩, by decide +kernel, by decide +kernel, zix1 1 rfl rfl, by decide⟩
set_option maxRecDepth 100000 in
theorem zm_X_refuse : zmP m_X_refuse := ⟨zix1 128 rfl rfl, ⟨by decide +kernel, by decide +kernel, by decide +kernel⟩, by decide +kernel, by decide +kernel, zix1 1 rfl rfl, by decide⟩
set_option maxRecDepth 100000 in
theorem zm_X_at : zmP m_X_at := ⟨zix1 131 rfl rfl, ⟨by decide +kernel, by decide +kernel, by decide +kernel⟩, by decide +kernel, by decide +kernel, zix1 1 rfl rfl, by decide⟩
set_option maxRecDepth 100000 in
theorem zm_X_put : zmP m_X_put := ⟨zix1 134 rfl rfl, ⟨by decide +kernel, by decide +kernel, by decide +kernel⟩, by decide +kernel, by decide +kernel, zix1 1 rfl rfl, by decide⟩
set_option maxRecDepth 100000 in
theorem zm_T_append : zmP m_T_append := ⟨zix1 138 rfl rfl, ⟨by decide +kernel, by decide +kernel, by decide +kernel⟩, by decide +kernel, by decide +kernel, zix1 4 rfl rfl, by decide⟩
set_option maxRecDepth 100000 in
theorem zm_X_hill : zmP m_X_hill := ⟨zix1 143 rfl rfl, ⟨by decide +kernel, by decide +kernel, by decide +kernel⟩, by decide +kernel, by decide +kernel, zix1 1 rfl rfl, by decide⟩
set_option maxRecDepth 100000 in
theorem zm_T_wrongPlace : zmP m_T_wrongPlace := ⟨zix1 147 rfl rfl, ⟨by decide +kernel, by decide +kernel, by decide +kernel⟩, by decide +kernel, by decide +kernel, zix1 4 rfl rfl, by decide⟩
set_option maxRecDepth 100000 in
theorem zm_T_digitsBehind : zmP m_T_digitsBehind := ⟨zix1 151 rfl rfl, ⟨by decide +kernel, by decide +kernel, by decide +kernel⟩, by decide +kernel, by decide +kernel, zix1 4 rfl rfl, by decide⟩
set_option maxRecDepth 100000 in
theorem zm_H_become : zmP m_H_become := ⟨zix1 155 rfl rfl, ⟨by decide +kernel, by decide +kernel, by decide +kernel⟩, by decide +kernel, by decide +kernel, zix1 2 rfl rfl, by decide⟩
set_option maxRecDepth 100000 in
theorem zm_T_beginsStatement : zmP m_T_beginsStatement := ⟨zix1 161 rfl rfl, ⟨by decide +kernel, by decide +kernel, by decide +kernel⟩, by decide +kernel, by decide +kernel, zix1 4 rfl rfl, by decide⟩
set_option maxRecDepth 100000 in
theorem zm_T_comesTo : zmP m_T_comesTo := ⟨zix1 165 rfl rfl, ⟨by decide +kernel, by decide +kernel, by decide +kernel⟩, by decide +kernel, by decide +kernel, zix1 4 rfl rfl, by decide⟩
set_option maxRecDepth 100000 in
theorem zm_T_digit : zmP m_T_digit := ⟨zix1 169 rfl rfl, ⟨by decide +kernel, by decide +kernel, by decide +kernel⟩, by decide +kernel, by decide +kernel, zix1 4 rfl rfl, by decide⟩
set_option maxRecDepth 100000 in
theorem zm_T_number : zmP m_T_number := ⟨zix1 173 rfl rfl, ⟨by decide +kernel, by decide +kernel, by decide +kernel⟩, by decide +kernel, by decide +kernel, zix1 4 rfl rfl, by decide⟩
set_option maxRecDepth 100000 in
theorem zm_T_joins : zmP m_T_joins := ⟨zix1 176 rfl rfl, ⟨by decide +kernel, by decide +kernel, by decide +kernel⟩, by decide +kernel, by decide +kernel, zix1 4 rfl rfl, by decide⟩
set_option maxRecDepth 100000 in
theorem zm_X_isKind : zmP m_X_isKind := ⟨zix1 179 rfl rfl, ⟨by decide +kernel, by decide +kernel, by decide +kernel⟩, by decide +kernel, by decide +kernel, zix1 1 rfl rfl, by decide⟩
set_option maxRecDepth 100000 in
theorem zm_X_isCell : zmP m_X_isCell := ⟨zix1 182 rfl rfl, ⟨by decide +kernel, by decide +kernel, by decide +kernel⟩, by decide +kernel, by decide +kernel, zix1 1 rfl rfl, by decide⟩
set_option maxRecDepth 100000 in
theorem zm_X_isWay : zmP m_X_isWay := ⟨zix1 185 rfl rfl, ⟨by decide +kernel, by decide +kernel, by decide +kernel⟩, by decide +kernel, by decide +kernel, zix1 1 rfl rfl, by decide⟩
set_option maxRecDepth 100000 in
theorem zm_H_isFree : zmP m_H_isFree := ⟨zix1 189 rfl rfl, ⟨by decide +kernel, by decide +kernel, by decide +kernel⟩, by decide +kernel, by decide +kernel, zix1 2 rfl rfl, by decide⟩
set_option maxRecDepth 100000 in
theorem zm_H_whoIsAt : zmP m_H_whoIsAt := ⟨zix1 193 rfl rfl, ⟨by decide +kernel, by decide +kernel, by decide +kernel⟩, by decide +kernel, by decide +kernel, zix1 2 rfl rfl, by decide⟩
set_option maxRecDepth 100000 in
theorem zm_H_join : zmP m_H_join := ⟨zix1 197 rfl rfl, ⟨by decide +kernel, by decide +kernel, by decide +kernel⟩, by decide +kernel, by decide +kernel, zix1 2 rfl rfl, by decide⟩
set_option maxRecDepth 100000 in
theorem zm_T_facesSo : zmP m_T_facesSo := ⟨zix1 200 rfl rfl, ⟨by decide +kernel, by decide +kernel, by decide +kernel⟩, by decide +kernel, by decide +kernel, zix1 4 rfl rfl, by decide⟩
set_option maxRecDepth 100000 in
theorem zm_H_has : zmP m_H_has := ⟨zix1 204 rfl rfl, ⟨by decide +kernel, by decide +kernel, by decide +kernel⟩, by decide +kernel, by decide +kernel, zix1 2 rfl rfl, by decide⟩
set_option maxRecDepth 100000 in
theorem zm_H_face : zmP m_H_face := ⟨zix1 208 rfl rfl, ⟨by decide +kernel, by decide +kernel, by decide +kernel⟩, by decide +kernel, by decide +kernel, zix1 2 rfl rfl, by decide⟩
set_option maxRecDepth 100000 in
theorem zm_T_changesCell : zmP m_T_changesCell := ⟨zix1 211 rfl rfl, ⟨by decide +kernel, by decide +kernel, by decide +kernel⟩, by decide +kernel, by decide +kernel, zix1 4 rfl rfl, by decide⟩
set_option maxRecDepth 100000 in
theorem zm_H_place : zmP m_H_place := ⟨zix1 215 rfl rfl, ⟨by decide +kernel, by decide +kernel, by decide +kernel⟩, by decide +kernel, by decide +kernel, zix1 2 rfl rfl, by decide⟩
set_option maxRecDepth 100000 in
theorem zm_H_hasRoomFor : zmP m_H_hasRoomFor := ⟨zix1 219 rfl rfl, ⟨by decide +kernel, by decide +kernel, by decide +kernel⟩, by decide +kernel, by decide +kernel, zix1 2 rfl rfl, by decide⟩
set_option maxRecDepth 100000 in
theorem zm_H_pass : zmP m_H_pass := ⟨zix1 223 rfl rfl, ⟨by decide +kernel, by decide +kernel, by decide +kernel⟩, by decide +kernel, by decide +kernel, zix1 2 rfl rfl, by decide⟩
set_option maxRecDepth 100000 in
theorem zm_H_nightWithout : zmP m_H_nightWithout := ⟨zix1 227 rfl rfl, ⟨by decide +kernel, by decide +kernel, by decide +kernel⟩, by decide +kernel, by decide +kernel, zix1 2 rfl rfl, by decide⟩
set_option maxRecDepth 100000 in
theorem zm_H_inLens : zmP m_H_inLens := ⟨zix1 231 rfl rfl, ⟨by decide +kernel, by decide +kernel, by decide +kernel⟩, by decide +kernel, by decide +kernel, zix1 2 rfl rfl, by decide⟩
set_option maxRecDepth 100000 in
theorem zm_X_turned : zmP m_X_turned := ⟨zix1 234 rfl rfl, ⟨by decide +kernel, by decide +kernel, by decide +kernel⟩, by decide +kernel, by decide +kernel, zix1 1 rfl rfl, by decide⟩
set_option maxRecDepth 100000 in
theorem zm_H_depthOf : zmP m_H_depthOf := ⟨zix1 238 rfl rfl, ⟨by decide +kernel, by decide +kernel, by decide +kernel⟩, by decide +kernel, by decide +kernel, zix1 2 rfl rfl, by decide⟩
set_option maxRecDepth 100000 in
theorem zm_X_depth : zmP m_X_depth := ⟨zixb 1 rfl rfl, ⟨by decide +kernel, by decide +kernel, by decide +kernel⟩, by decide +kernel, by decide +kernel, zix1 1 rfl rfl, by decide⟩
set_option maxRecDepth 100000 in
theorem zm_H_nextTo : zmP m_H_nextTo := ⟨zixb 5 rfl rfl, ⟨by decide +kernel, by decide +kernel, by decide +kernel⟩, by decide +kernel, by decide +kernel, zix1 2 rfl rfl, by decide⟩
set_option maxRecDepth 100000 in
theorem zm_X_cellBeside : zmP m_X_cellBeside := ⟨zixb 8 rfl rfl, ⟨by decide +kernel, by decide +kernel, by decide +kernel⟩, by decide +kernel, by decide +kernel, zix1 1 rfl rfl, by decide⟩
set_option maxRecDepth 100000 in
theorem zm_X_bitOf : zmP m_X_bitOf := ⟨zixb 11 rfl rfl, ⟨by decide +kernel, by decide +kernel, by decide +kernel⟩, by decide +kernel, by decide +kernel, zix1 1 rfl rfl, by decide⟩
set_option maxRecDepth 100000 in
theorem zm_H_stirs : zmP m_H_stirs := ⟨zixb 18 rfl rfl, ⟨by decide +kernel, by decide +kernel, by decide +kernel⟩, by decide +kernel, by decide +kernel, zix1 2 rfl rfl, by decide⟩
set_option maxRecDepth 100000 in
theorem zm_H_ahead : zmP m_H_ahead := ⟨zixb 22 rfl rfl, ⟨by decide +kernel, by decide +kernel, by decide +kernel⟩, by decide +kernel, by decide +kernel, zix1 2 rfl rfl, by decide⟩
set_option maxRecDepth 100000 in
theorem zm_H_reachOf : zmP m_H_reachOf := ⟨zixb 26 rfl rfl, ⟨by decide +kernel, by decide +kernel, by decide +kernel⟩, by decide +kernel, by decide +kernel, zix1 2 rfl rfl, by decide⟩
set_option maxRecDepth 100000 in
theorem zm_X_reach : zmP m_X_reach := ⟨zixb 29 rfl rfl, ⟨by decide +kernel, by decide +kernel, by decide +kernel⟩, by decide +kernel, by decide +kernel, zix1 1 rfl rfl, by decide⟩
set_option maxRecDepth 100000 in
theorem zm_H_turnsBy : zmP m_H_turnsBy := ⟨zixb 33 rfl rfl, ⟨by decide +kernel, by decide +kernel, by decide +kernel⟩, by decide +kernel, by decide +kernel, zix1 2 rfl rfl, by decide⟩
set_option maxRecDepth 100000 in
theorem zm_H_stepsTo : zmP m_H_stepsTo := ⟨zixb 37 rfl rfl, ⟨by decide +kernel, by decide +kernel, by decide +kernel⟩, by decide +kernel, by decide +kernel, zix1 2 rfl rfl, by decide⟩
set_option maxRecDepth 100000 in
theorem zm_T_forget : zmP m_T_forget := ⟨zixb 42 rfl rfl, ⟨by decide +kernel, by decide +kernel, by decide +kernel⟩, by decide +kernel, by decide +kernel, zix1 4 rfl rfl, by decide⟩
set_option maxRecDepth 100000 in
theorem zm_P_forget : zmP m_P_forget := ⟨zixb 46 rfl rfl, ⟨by decide +kernel, by decide +kernel, by decide +kernel⟩, by decide +kernel, by decide +kernel, zix1 3 rfl rfl, by decide⟩
set_option maxRecDepth 100000 in
theorem zm_X_personOf : zmP m_X_personOf := ⟨zixb 50 rfl rfl, ⟨by decide +kernel, by decide +kernel, by decide +kernel⟩, by decide +kernel, by decide +kernel, zix1 1 rfl rfl, by decide⟩
set_option maxRecDepth 100000 in
theorem zm_H_kindOf : zmP m_H_kindOf := ⟨zixb 55 rfl rfl, ⟨by decide +kernel, by decide +kernel, by decide +kernel⟩, by decide +kernel, by decide +kernel, zix1 2 rfl rfl, by decide⟩
set_option maxRecDepth 100000 in
theorem zm_H_figureOf : zmP m_H_figureOf := ⟨zixb 59 rfl rfl, ⟨by decide +kernel, by decide +kernel, by decide +kernel⟩, by decide +kernel, by decide +kernel, zix1 2 rfl rfl, by decide⟩
set_option maxRecDepth 100000 in
theorem zm_H_cellOf : zmP m_H_cellOf := ⟨zixb 63 rfl rfl, ⟨by decide +kernel, by decide +kernel, by decide +kernel⟩, by decide +kernel, by decide +kernel, zix1 2 rfl rfl, by decide⟩
set_option maxRecDepth 100000 in
theorem zm_H_facesOf : zmP m_H_facesOf := ⟨zixb 67 rfl rfl, ⟨by decide +kernel, by decide +kernel, by decide +kernel⟩, by decide +kernel, by decide +kernel, zix1 2 rfl rfl, by decide⟩
set_option maxRecDepth 100000 in
theorem zm_H_startsOf : zmP m_H_startsOf := ⟨zixb 71 rfl rfl, ⟨by decide +kernel, by decide +kernel, by decide +kernel⟩, by decide +kernel, by decide +kernel, zix1 2 rfl rfl, by decide⟩
set_option maxRecDepth 100000 in
theorem zm_X_person : zmP m_X_person := ⟨zixb 77 rfl rfl, ⟨by decide +kernel, by decide +kernel, by decide +kernel⟩, by decide +kernel, by decide +kernel, zix1 1 rfl rfl, by decide⟩
set_option maxRecDepth 100000 in
theorem zm_X_turns : zmP m_X_turns := ⟨zixb 86 rfl rfl, ⟨by decide +kernel, by decide +kernel, by decide +kernel⟩, by decide +kernel, by decide +kernel, zix1 1 rfl rfl, by decide⟩
set_option maxRecDepth 100000 in
theorem zm_P_keep : zmP m_P_keep := ⟨zixb 90 rfl rfl, ⟨by decide +kernel, by decide +kernel, by decide +kernel⟩, by decide +kernel, by decide +kernel, zix1 3 rfl rfl, by decide⟩
set_option maxRecDepth 100000 in
theorem zm_P_placeAt : zmP m_P_placeAt := ⟨zixb 94 rfl rfl, ⟨by decide +kernel, by decide +kernel, by decide +kernel⟩, by decide +kernel, by decide +kernel, zix1 3 rfl rfl, by decide⟩
set_option maxRecDepth 100000 in
theorem zm_X_stands : zmP m_X_stands := ⟨zixb 101 rfl rfl, ⟨by decide +kernel, by decide +kernel, by decide +kernel⟩, by decide +kernel, by decide +kernel, zix1 1 rfl rfl, by decide⟩
set_option maxRecDepth 100000 in
theorem zm_X_nights : zmP m_X_nights := ⟨zixb 106 rfl rfl, ⟨by decide +kernel, by decide +kernel, by decide +kernel⟩, by decide +kernel, by decide +kernel, zix1 1 rfl rfl, by decide⟩
set_option maxRecDepth 100000 in
theorem zm_H_startsTogether : zmP m_H_startsTogether := ⟨zixb 112 rfl rfl, ⟨by decide +kernel, by decide +kernel, by decide +kernel⟩, by decide +kernel, by decide +kernel, zix1 2 rfl rfl, by decide⟩
set_option maxRecDepth 100000 in
theorem zm_X_back : zmP m_X_back := ⟨zixb 116 rfl rfl, ⟨by decide +kernel, by decide +kernel, by decide +kernel⟩, by decide +kernel, by decide +kernel, zix1 1 rfl rfl, by decide⟩
set_option maxRecDepth 100000 in
theorem zm_P_giveBack : zmP m_P_giveBack := ⟨zixb 120 rfl rfl, ⟨by decide +kernel, by decide +kernel, by decide +kernel⟩, by decide +kernel, by decide +kernel, zix1 3 rfl rfl, by decide⟩
set_option maxRecDepth 100000 in
theorem zm_X_behind : zmP m_X_behind := ⟨zixb 124 rfl rfl, ⟨by decide +kernel, by decide +kernel, by decide +kernel⟩, by decide +kernel, by decide +kernel, zix1 1 rfl rfl, by decide⟩
set_option maxRecDepth 100000 in
theorem zm_X_wrongNights : zmP m_X_wrongNights := ⟨zixb 128 rfl rfl, ⟨by decide +kernel, by decide +kernel, by decide +kernel⟩, by decide +kernel, by decide +kernel, zix1 1 rfl rfl, by decide⟩
set_option maxRecDepth 100000 in
theorem zm_X_lookAhead : zmP m_X_lookAhead := ⟨zixb 132 rfl rfl, ⟨by decide +kernel, by decide +kernel, by decide +kernel⟩, by decide +kernel, by decide +kernel, zix1 1 rfl rfl, by decide⟩
set_option maxRecDepth 100000 in
theorem zm_H_watchers : zmP m_H_watchers := ⟨zixb 139 rfl rfl, ⟨by decide +kernel, by decide +kernel, by decide +kernel⟩, by decide +kernel, by decide +kernel, zix1 2 rfl rfl, by decide⟩
set_option maxRecDepth 100000 in
theorem zm_X_allStarts : zmP m_X_allStarts := ⟨zixb 143 rfl rfl, ⟨by decide +kernel, by decide +kernel, by decide +kernel⟩, by decide +kernel, by decide +kernel, zix1 1 rfl rfl, by decide⟩
set_option maxRecDepth 100000 in
theorem zm_X_first : zmP m_X_first := ⟨zixb 147 rfl rfl, ⟨by decide +kernel, by decide +kernel, by decide +kernel⟩, by decide +kernel, by decide +kernel, zix1 1 rfl rfl, by decide⟩
set_option maxRecDepth 100000 in
theorem zm_X_wrongWhat : zmP m_X_wrongWhat := ⟨zixb 151 rfl rfl, ⟨by decide +kernel, by decide +kernel, by decide +kernel⟩, by decide +kernel, by decide +kernel, zix1 1 rfl rfl, by decide⟩
set_option maxRecDepth 100000 in
theorem zm_X_still : zmP m_X_still := ⟨zixb 155 rfl rfl, ⟨by decide +kernel, by decide +kernel, by decide +kernel⟩, by decide +kernel, by decide +kernel, zix1 1 rfl rfl, by decide⟩
set_option maxRecDepth 100000 in
theorem zm_X_unseen : zmP m_X_unseen := ⟨zixb 159 rfl rfl, ⟨by decide +kernel, by decide +kernel, by decide +kernel⟩, by decide +kernel, by decide +kernel, zix1 1 rfl rfl, by decide⟩
set_option maxRecDepth 100000 in
theorem zm_H_everybody : zmP m_H_everybody := ⟨zixb 164 rfl rfl, ⟨by decide +kernel, by decide +kernel, by decide +kernel⟩, by decide +kernel, by decide +kernel, zix1 2 rfl rfl, by decide⟩
set_option maxRecDepth 100000 in
theorem zm_X_chain : zmP m_X_chain := ⟨zixb 168 rfl rfl, ⟨by decide +kernel, by decide +kernel, by decide +kernel⟩, by decide +kernel, by decide +kernel, zix1 1 rfl rfl, by decide⟩
set_option maxRecDepth 100000 in
theorem zm_H_chainOf : zmP m_H_chainOf := ⟨zixb 172 rfl rfl, ⟨by decide +kernel, by decide +kernel, by decide +kernel⟩, by decide +kernel, by decide +kernel, zix1 2 rfl rfl, by decide⟩
set_option maxRecDepth 100000 in
theorem zm_X_deepest : zmP m_X_deepest := ⟨zixb 176 rfl rfl, ⟨by decide +kernel, by decide +kernel, by decide +kernel⟩, by decide +kernel, by decide +kernel, zix1 1 rfl rfl, by decide⟩
set_option maxRecDepth 100000 in
theorem zm_X_knows : zmP m_X_knows := ⟨zixb 180 rfl rfl, ⟨by decide +kernel, by decide +kernel, by decide +kernel⟩, by decide +kernel, by decide +kernel, zix1 1 rfl rfl, by decide⟩
set_option maxRecDepth 100000 in
theorem zm_H_seenBy : zmP m_H_seenBy := ⟨zixb 184 rfl rfl, ⟨by decide +kernel, by decide +kernel, by decide +kernel⟩, by decide +kernel, by decide +kernel, zix1 2 rfl rfl, by decide⟩
set_option maxRecDepth 100000 in
theorem zm_X_safe : zmP m_X_safe := ⟨zixb 188 rfl rfl, ⟨by decide +kernel, by decide +kernel, by decide +kernel⟩, by decide +kernel, by decide +kernel, zix1 1 rfl rfl, by decide⟩
set_option maxRecDepth 100000 in
theorem zm_X_alone : zmP m_X_alone := ⟨zixb 192 rfl rfl, ⟨by decide +kernel, by decide +kernel, by decide +kernel⟩, by decide +kernel, by decide +kernel, zix1 1 rfl rfl, by decide⟩
set_option maxRecDepth 100000 in
theorem zm_X_turnAll : zmP m_X_turnAll := ⟨zixb 196 rfl rfl, ⟨by decide +kernel, by decide +kernel, by decide +kernel⟩, by decide +kernel, by decide +kernel, zix1 1 rfl rfl, by decide⟩
set_option maxRecDepth 100000 in
theorem zm_H_seesAllWays : zmP m_H_seesAllWays := ⟨zixb 200 rfl rfl, ⟨by decide +kernel, by decide +kernel, by decide +kernel⟩, by decide +kernel, by decide +kernel, zix1 2 rfl rfl, by decide⟩
set_option maxRecDepth 100000 in
theorem zm_X_post : zmP m_X_post := ⟨zixb 204 rfl rfl, ⟨by decide +kernel, by decide +kernel, by decide +kernel⟩, by decide +kernel, by decide +kernel, zix1 1 rfl rfl, by decide⟩
set_option maxRecDepth 100000 in
theorem zm_H_facesToSeeUnseen : zmP m_H_facesToSeeUnseen := ⟨zixb 208 rfl rfl, ⟨by decide +kernel, by decide +kernel, by decide +kernel⟩, by decide +kernel, by decide +kernel, zix1 2 rfl rfl, by decide⟩
set_option maxRecDepth 100000 in
theorem zm_X_which : zmP m_X_which := ⟨zixb 212 rfl rfl, ⟨by decide +kernel, by decide +kernel, by decide +kernel⟩, by decide +kernel, by decide +kernel, zix1 1 rfl rfl, by decide⟩
set_option maxRecDepth 100000 in
theorem zm_H_beOfKind : zmP m_H_beOfKind := ⟨zixb 216 rfl rfl, ⟨by decide +kernel, by decide +kernel, by decide +kernel⟩, by decide +kernel, by decide +kernel, zix1 2 rfl rfl, by decide⟩
set_option maxRecDepth 100000 in
theorem zm_H_beOfFigure : zmP m_H_beOfFigure := ⟨zixb 220 rfl rfl, ⟨by decide +kernel, by decide +kernel, by decide +kernel⟩, by decide +kernel, by decide +kernel, zix1 2 rfl rfl, by decide⟩
set_option maxRecDepth 100000 in
theorem zm_X_turnsAsTold : zmP m_X_turnsAsTold := ⟨zixb 224 rfl rfl, ⟨by decide +kernel, by decide +kernel, by decide +kernel⟩, by decide +kernel, by decide +kernel, zix1 1 rfl rfl, by decide⟩
set_option maxRecDepth 100000 in
theorem zm_X_bestStep : zmP m_X_bestStep := ⟨zixb 228 rfl rfl, ⟨by decide +kernel, by decide +kernel, by decide +kernel⟩, by decide +kernel, by decide +kernel, zix1 1 rfl rfl, by decide⟩
set_option maxRecDepth 100000 in
theorem zm_H_cellOfStep : zmP m_H_cellOfStep := ⟨zixb 232 rfl rfl, ⟨by decide +kernel, by decide +kernel, by decide +kernel⟩, by decide +kernel, by decide +kernel, zix1 2 rfl rfl, by decide⟩
set_option maxRecDepth 100000 in
theorem zm_J_bitCount : zmP m_J_bitCount := ⟨zixb 235 rfl rfl, ⟨by decide +kernel, by decide +kernel, by decide +kernel⟩, by decide +kernel, by decide +kernel, zix1 7 rfl rfl, by decide⟩
set_option maxRecDepth 100000 in
theorem zm_X_two : zmP m_X_two := ⟨zixc 2 rfl rfl, ⟨by decide +kernel, by decide +kernel, by decide +kernel⟩, by decide +kernel, by decide +kernel, zix1 1 rfl rfl, by decide⟩
set_option maxRecDepth 100000 in
theorem zm_X_areTwo : zmP m_X_areTwo := ⟨zixc 6 rfl rfl, ⟨by decide +kernel, by decide +kernel, by decide +kernel⟩, by decide +kernel, by decide +kernel, zix1 1 rfl rfl, by decide⟩
set_option maxRecDepth 100000 in
theorem zm_X_stepsSeenByFaces : zmP m_X_stepsSeenByFaces := ⟨zixc 10 rfl rfl, ⟨by decide +kernel, by decide +kernel, by decide +kernel⟩, by decide +kernel, by decide +kernel, zix1 1 rfl rfl, by decide⟩
set_option maxRecDepth 100000 in
theorem zm_X_pairBit : zmP m_X_pairBit := ⟨zixc 13 rfl rfl, ⟨by decide +kernel, by decide +kernel, by decide +kernel⟩, by decide +kernel, by decide +kernel, zix1 1 rfl rfl, by decide⟩
set_option maxRecDepth 100000 in
theorem zm_X_neitherHasBetter : zmP m_X_neitherHasBetter := ⟨zixc 16 rfl rfl, ⟨by decide +kernel, by decide +kernel, by decide +kernel⟩, by decide +kernel, by decide +kernel, zix1 1 rfl rfl, by decide⟩
set_option maxRecDepth 100000 in
theorem zm_X_slept : zmP m_X_slept := ⟨zixc 20 rfl rfl, ⟨by decide +kernel, by decide +kernel, by decide +kernel⟩, by decide +kernel, by decide +kernel, zix1 1 rfl rfl, by decide⟩
set_option maxRecDepth 100000 in
theorem zm_X_waysToFace : zmP m_X_waysToFace := ⟨zixc 24 rfl rfl, ⟨by decide +kernel, by decide +kernel, by decide +kernel⟩, by decide +kernel, by decide +kernel, zix1 1 rfl rfl, by decide⟩
set_option maxRecDepth 100000 in
theorem zm_X_commonDivisor : zmP m_X_commonDivisor := ⟨zixc 27 rfl rfl, ⟨by decide +kernel, by decide +kernel, by decide +kernel⟩, by decide +kernel, by decide +kernel, zix1 1 rfl rfl, by decide⟩
set_option maxRecDepth 100000 in
theorem zm_X_busiest : zmP m_X_busiest := ⟨zixc 31 rfl rfl, ⟨by decide +kernel, by decide +kernel, by decide +kernel⟩, by decide +kernel, by decide +kernel, zix1 1 rfl rfl, by decide⟩
set_option maxRecDepth 100000 in
theorem zm_X_twos : zmP m_X_twos := ⟨zixc 35 rfl rfl, ⟨by decide +kernel, by decide +kernel, by decide +kernel⟩, by decide +kernel, by decide +kernel, zix1 1 rfl rfl, by decide⟩
set_option maxRecDepth 100000 in
theorem zm_X_nearest : zmP m_X_nearest := ⟨zixc 39 rfl rfl, ⟨by decide +kernel, by decide +kernel, by decide +kernel⟩, by decide +kernel, by decide +kernel, zix1 1 rfl rfl, by decide⟩
set_option maxRecDepth 100000 in
theorem zm_H_cellsApart : zmP m_H_cellsApart := ⟨zixc 43 rfl rfl, ⟨by decide +kernel, by decide +kernel, by decide +kernel⟩, by decide +kernel, by decide +kernel, zix1 2 rfl rfl, by decide⟩
set_option maxRecDepth 100000 in
theorem zm_X_rowOf : zmP m_X_rowOf := ⟨zixc 46 rfl rfl, ⟨by decide +kernel, by decide +kernel, by decide +kernel⟩, by decide +kernel, by decide +kernel, zix1 1 rfl rfl, by decide⟩
set_option maxRecDepth 100000 in
theorem zm_X_columnOf : zmP m_X_columnOf := ⟨zixc 52 rfl rfl, ⟨by decide +kernel, by decide +kernel, by decide +kernel⟩, by decide +kernel, by decide +kernel, zix1 1 rfl rfl, by decide⟩
set_option maxRecDepth 100000 in
theorem zm_X_lines : zmP m_X_lines := ⟨zixc 56 rfl rfl, ⟨by decide +kernel, by decide +kernel, by decide +kernel⟩, by decide +kernel, by decide +kernel, zix1 1 rfl rfl, by decide⟩
set_option maxRecDepth 100000 in
theorem zm_X_hidden : zmP m_X_hidden := ⟨zixc 62 rfl rfl, ⟨by decide +kernel, by decide +kernel, by decide +kernel⟩, by decide +kernel, by decide +kernel, zix1 1 rfl rfl, by decide⟩
set_option maxRecDepth 100000 in
theorem zm_X_longest : zmP m_X_longest := ⟨zixc 67 rfl rfl, ⟨by decide +kernel, by decide +kernel, by decide +kernel⟩, by decide +kernel, by decide +kernel, zix1 1 rfl rfl, by decide⟩
set_option maxRecDepth 100000 in
theorem zm_X_walks : zmP m_X_walks := ⟨zixc 71 rfl rfl, ⟨by decide +kernel, by decide +kernel, by decide +kernel⟩, by decide +kernel, by decide +kernel, zix1 1 rfl rfl, by decide⟩
set_option maxRecDepth 100000 in
theorem zm_X_meets : zmP m_X_meets := ⟨zixc 75 rfl rfl, ⟨by decide +kernel, by decide +kernel, by decide +kernel⟩, by decide +kernel, by decide +kernel, zix1 1 rfl rfl, by decide⟩
set_option maxRecDepth 100000 in
theorem zm_X_leave : zmP m_X_leave := ⟨zixc 79 rfl rfl, ⟨by decide +kernel, by decide +kernel, by decide +kernel⟩, by decide +kernel, by decide +kernel, zix1 1 rfl rfl, by decide⟩
set_option maxRecDepth 100000 in
theorem zm_X_most : zmP m_X_most := ⟨zixc 83 rfl rfl, ⟨by decide +kernel, by decide +kernel, by decide +kernel⟩, by decide +kernel, by decide +kernel, zix1 1 rfl rfl, by decide⟩
set_option maxRecDepth 100000 in
theorem zm_X_quiet : zmP m_X_quiet := ⟨zixc 87 rfl rfl, ⟨by decide +kernel, by decide +kernel, by decide +kernel⟩, by decide +kernel, by decide +kernel, zix1 1 rfl rfl, by decide⟩
set_option maxRecDepth 100000 in
theorem zm_X_row : zmP m_X_row := ⟨zixc 91 rfl rfl, ⟨by decide +kernel, by decide +kernel, by decide +kernel⟩, by decide +kernel, by decide +kernel, zix1 1 rfl rfl, by decide⟩
set_option maxRecDepth 100000 in
theorem zm_X_judge : zmP m_X_judge := ⟨zixc 95 rfl rfl, ⟨by decide +kernel, by decide +kernel, by decide +kernel⟩, by decide +kernel, by decide +kernel, zix1 1 rfl rfl, by decide⟩
set_option maxRecDepth 100000 in
theorem zm_X_clear : zmP m_X_clear := ⟨zixc 99 rfl rfl, ⟨by decide +kernel, by decide +kernel, by decide +kernel⟩, by decide +kernel, by decide +kernel, zix1 1 rfl rfl, by decide⟩
set_option maxRecDepth 100000 in
theorem zm_X_lots : zmP m_X_lots := ⟨zixc 103 rfl rfl, ⟨by decide +kernel, by decide +kernel, by decide +kernel⟩, by decide +kernel, by decide +kernel, zix1 1 rfl rfl, by decide⟩
set_option maxRecDepth 100000 in
theorem zm_X_nextSeed : zmP m_X_nextSeed := ⟨zixc 106 rfl rfl, ⟨by decide +kernel, by decide +kernel, by decide +kernel⟩, by decide +kernel, by decide +kernel, zix1 1 rfl rfl, by decide⟩
set_option maxRecDepth 100000 in
theorem zm_X_drawOf : zmP m_X_drawOf := ⟨zixc 110 rfl rfl, ⟨by decide +kernel, by decide +kernel, by decide +kernel⟩, by decide +kernel, by decide +kernel, zix1 1 rfl rfl, by decide⟩
set_option maxRecDepth 100000 in
theorem zm_H_howManySee : zmP m_H_howManySee := ⟨zixc 116 rfl rfl, ⟨by decide +kernel, by decide +kernel, by decide +kernel⟩, by decide +kernel, by decide +kernel, zix1 2 rfl rfl, by decide⟩
set_option maxRecDepth 100000 in
theorem zm_X_image : zmP m_X_image := ⟨zixc 120 rfl rfl, ⟨by decide +kernel, by decide +kernel, by decide +kernel⟩, by decide +kernel, by decide +kernel, zix1 1 rfl rfl, by decide⟩
set_option maxRecDepth 100000 in
theorem zm_X_restore : zmP m_X_restore := ⟨zixc 124 rfl rfl, ⟨by decide +kernel, by decide +kernel, by decide +kernel⟩, by decide +kernel, by decide +kernel, zix1 1 rfl rfl, by decide⟩
set_option maxRecDepth 100000 in
theorem zm_X_count : zmP m_X_count := ⟨zixc 128 rfl rfl, ⟨by decide +kernel, by decide +kernel, by decide +kernel⟩, by decide +kernel, by decide +kernel, zix1 1 rfl rfl, by decide⟩
set_option maxRecDepth 100000 in
theorem zm_M_init : zmP m_M_init := ⟨zixc 133 rfl rfl, ⟨by decide +kernel, by decide +kernel, by decide +kernel⟩, by decide +kernel, by decide +kernel, zix1 5 rfl rfl, by decide⟩
set_option maxRecDepth 100000 in
theorem zm_M_feed : zmP m_M_feed := ⟨zixd 4 rfl rfl, ⟨by decide +kernel, by decide +kernel, by decide +kernel⟩, by decide +kernel, by decide +kernel, zix1 5 rfl rfl, by decide⟩
set_option maxRecDepth 100000 in
theorem zm_M_refuse : zmP m_M_refuse := ⟨zixd 8 rfl rfl, ⟨by decide +kernel, by decide +kernel, by decide +kernel⟩, by decide +kernel, by decide +kernel, zix1 5 rfl rfl, by decide⟩
set_option maxRecDepth 100000 in
theorem zm_M_hill : zmP m_M_hill := ⟨zixd 12 rfl rfl, ⟨by decide +kernel, by decide +kernel, by decide +kernel⟩, by decide +kernel, by decide +kernel, zix1 5 rfl rfl, by decide⟩
set_option maxRecDepth 100000 in
theorem zm_M_readStatement : zmP m_M_readStatement := ⟨zixd 16 rfl rfl, ⟨by decide +kernel, by decide +kernel, by decide +kernel⟩, by decide +kernel, by decide +kernel, zix1 5 rfl rfl, by decide⟩
set_option maxRecDepth 100000 in
theorem zm_M_here : zmP m_M_here := ⟨zixd 20 rfl rfl, ⟨by decide +kernel, by decide +kernel, by decide +kernel⟩, by decide +kernel, by decide +kernel, zix1 5 rfl rfl, by decide⟩
set_option maxRecDepth 100000 in
theorem zm_M_isLetter : zmP m_M_isLetter := ⟨zixd 23 rfl rfl, ⟨by decide +kernel, by decide +kernel, by decide +kernel⟩, by decide +kernel, by decide +kernel, zix1 5 rfl rfl, by decide⟩
set_option maxRecDepth 100000 in
theorem zm_M_readNumbers : zmP m_M_readNumbers := ⟨zixd 27 rfl rfl, ⟨by decide +kernel, by decide +kernel, by decide +kernel⟩, by decide +kernel, by decide +kernel, zix1 5 rfl rfl, by decide⟩
set_option maxRecDepth 100000 in
theorem zm_M_readDigits : zmP m_M_readDigits := ⟨zixd 31 rfl rfl, ⟨by decide +kernel, by decide +kernel, by decide +kernel⟩, by decide +kernel, by decide +kernel, zix1 5 rfl rfl, by decide⟩
set_option maxRecDepth 100000 in
theorem zm_M_in : zmP m_M_in := ⟨zixd 36 rfl rfl, ⟨by decide +kernel, by decide +kernel, by decide +kernel⟩, by decide +kernel, by decide +kernel, zix1 5 rfl rfl, by decide⟩
set_option maxRecDepth 100000 in
theorem zm_M_think : zmP m_M_think := ⟨zixd 40 rfl rfl, ⟨by decide +kernel, by decide +kernel, by decide +kernel⟩, by decide +kernel, by decide +kernel, zix1 5 rfl rfl, by decide⟩
set_option maxRecDepth 100000 in
theorem zm_M_carryAll : zmP m_M_carryAll := ⟨zixd 44 rfl rfl, ⟨by decide +kernel, by decide +kernel, by decide +kernel⟩, by decide +kernel, by decide +kernel, zix1 5 rfl rfl, by decide⟩
set_option maxRecDepth 100000 in
theorem zm_M_carry : zmP m_M_carry := ⟨zixd 48 rfl rfl, ⟨by decide +kernel, by decide +kernel, by decide +kernel⟩, by decide +kernel, by decide +kernel, zix1 5 rfl rfl, by decide⟩
set_option maxRecDepth 100000 in
theorem zm_M_comesTold : zmP m_M_comesTold := ⟨zixd 52 rfl rfl, ⟨by decide +kernel, by decide +kernel, by decide +kernel⟩, by decide +kernel, by decide +kernel, zix1 5 rfl rfl, by decide⟩
set_option maxRecDepth 100000 in
theorem zm_M_oneIn : zmP m_M_oneIn := ⟨zixd 56 rfl rfl, ⟨by decide +kernel, by decide +kernel, by decide +kernel⟩, by decide +kernel, by decide +kernel, zix1 5 rfl rfl, by decide⟩
set_option maxRecDepth 100000 in
theorem zm_M_oneComes : zmP m_M_oneComes := ⟨zixd 60 rfl rfl, ⟨by decide +kernel, by decide +kernel, by decide +kernel⟩, by decide +kernel, by decide +kernel, zix1 5 rfl rfl, by decide⟩
set_option maxRecDepth 100000 in
theorem zm_M_isOne : zmP m_M_isOne := ⟨zixd 64 rfl rfl, ⟨by decide +kernel, by decide +kernel, by decide +kernel⟩, by decide +kernel, by decide +kernel, zix1 5 rfl rfl, by decide⟩
set_option maxRecDepth 100000 in
theorem zm_M_goNights : zmP m_M_goNights := ⟨zixd 69 rfl rfl, ⟨by decide +kernel, by decide +kernel, by decide +kernel⟩, by decide +kernel, by decide +kernel, zix1 5 rfl rfl, by decide⟩
set_option maxRecDepth 100000 in
theorem zm_M_nightBy : zmP m_M_nightBy := ⟨zixd 73 rfl rfl, ⟨by decide +kernel, by decide +kernel, by decide +kernel⟩, by decide +kernel, by decide +kernel, zix1 5 rfl rfl, by decide⟩
set_option maxRecDepth 100000 in
theorem zm_M_lensOf : zmP m_M_lensOf := ⟨zixd 77 rfl rfl, ⟨by decide +kernel, by decide +kernel, by decide +kernel⟩, by decide +kernel, by decide +kernel, zix1 5 rfl rfl, by decide⟩
set_option maxRecDepth 100000 in
theorem zm_M_depthOf : zmP m_M_depthOf := ⟨zixd 81 rfl rfl, ⟨by decide +kernel, by decide +kernel, by decide +kernel⟩, by decide +kernel, by decide +kernel, zix1 5 rfl rfl, by decide⟩
set_option maxRecDepth 100000 in
theorem zm_M_nextFrom : zmP m_M_nextFrom := ⟨zixd 85 rfl rfl, ⟨by decide +kernel, by decide +kernel, by decide +kernel⟩, by decide +kernel, by decide +kernel, zix1 5 rfl rfl, by decide⟩
set_option maxRecDepth 100000 in
theorem zm_M_straight : zmP m_M_straight := ⟨zixd 88 rfl rfl, ⟨by decide +kernel, by decide +kernel, by decide +kernel⟩, by decide +kernel, by decide +kernel, zix1 5 rfl rfl, by decide⟩
set_option maxRecDepth 100000 in
theorem zm_M_goesBy : zmP m_M_goesBy := ⟨zixd 93 rfl rfl, ⟨by decide +kernel, by decide +kernel, by decide +kernel⟩, by decide +kernel, by decide +kernel, zix1 5 rfl rfl, by decide⟩
set_option maxRecDepth 100000 in
theorem zm_M_aheadOf : zmP m_M_aheadOf := ⟨zixd 97 rfl rfl, ⟨by decide +kernel, by decide +kernel, by decide +kernel⟩, by decide +kernel, by decide +kernel, zix1 5 rfl rfl, by decide⟩
set_option maxRecDepth 100000 in
theorem zm_M_reachOf : zmP m_M_reachOf := ⟨zixd 101 rfl rfl, ⟨by decide +kernel, by decide +kernel, by decide +kernel⟩, by decide +kernel, by decide +kernel, zix1 5 rfl rfl, by decide⟩
set_option maxRecDepth 100000 in
theorem zm_M_stepTo : zmP m_M_stepTo := ⟨zixd 105 rfl rfl, ⟨by decide +kernel, by decide +kernel, by decide +kernel⟩, by decide +kernel, by decide +kernel, zix1 5 rfl rfl, by decide⟩
set_option maxRecDepth 100000 in
theorem zm_M_again : zmP m_M_again := ⟨zixd 109 rfl rfl, ⟨by decide +kernel, by decide +kernel, by decide +kernel⟩, by decide +kernel, by decide +kernel, zix1 5 rfl rfl, by decide⟩
set_option maxRecDepth 100000 in
theorem zm_M_image : zmP m_M_image := ⟨zixd 113 rfl rfl, ⟨by decide +kernel, by decide +kernel, by decide +kernel⟩, by decide +kernel, by decide +kernel, zix1 5 rfl rfl, by decide⟩
set_option maxRecDepth 100000 in
theorem zm_M_restore : zmP m_M_restore := ⟨zixd 117 rfl rfl, ⟨by decide +kernel, by decide +kernel, by decide +kernel⟩, by decide +kernel, by decide +kernel, zix1 5 rfl rfl, by decide⟩
set_option maxRecDepth 100000 in
theorem zm_M_back : zmP m_M_back := ⟨zixd 121 rfl rfl, ⟨by decide +kernel, by decide +kernel, by decide +kernel⟩, by decide +kernel, by decide +kernel, zix1 5 rfl rfl, by decide⟩
set_option maxRecDepth 100000 in
theorem zm_M_personOf : zmP m_M_personOf := ⟨zixd 125 rfl rfl, ⟨by decide +kernel, by decide +kernel, by decide +kernel⟩, by decide +kernel, by decide +kernel, zix1 5 rfl rfl, by decide⟩
set_option maxRecDepth 100000 in
theorem zm_M_person : zmP m_M_person := ⟨zixd 130 rfl rfl, ⟨by decide +kernel, by decide +kernel, by decide +kernel⟩, by decide +kernel, by decide +kernel, zix1 5 rfl rfl, by decide⟩
set_option maxRecDepth 100000 in
theorem zm_M_wrongNumber : zmP m_M_wrongNumber := ⟨zixd 133 rfl rfl, ⟨by decide +kernel, by decide +kernel, by decide +kernel⟩, by decide +kernel, by decide +kernel, zix1 5 rfl rfl, by decide⟩
set_option maxRecDepth 100000 in
theorem zm_M_isCell : zmP m_M_isCell := ⟨zixd 136 rfl rfl, ⟨by decide +kernel, by decide +kernel, by decide +kernel⟩, by decide +kernel, by decide +kernel, zix1 5 rfl rfl, by decide⟩
set_option maxRecDepth 100000 in
theorem zm_M_turns : zmP m_M_turns := ⟨zixd 142 rfl rfl, ⟨by decide +kernel, by decide +kernel, by decide +kernel⟩, by decide +kernel, by decide +kernel, zix1 5 rfl rfl, by decide⟩
set_option maxRecDepth 100000 in
theorem zm_M_keepTurn : zmP m_M_keepTurn := ⟨zixd 146 rfl rfl, ⟨by decide +kernel, by decide +kernel, by decide +kernel⟩, by decide +kernel, by decide +kernel, zix1 5 rfl rfl, by decide⟩
set_option maxRecDepth 100000 in
theorem zm_M_stands : zmP m_M_stands := ⟨zixd 150 rfl rfl, ⟨by decide +kernel, by decide +kernel, by decide +kernel⟩, by decide +kernel, by decide +kernel, zix1 5 rfl rfl, by decide⟩
set_option maxRecDepth 100000 in
theorem zm_M_nights : zmP m_M_nights := ⟨zixd 154 rfl rfl, ⟨by decide +kernel, by decide +kernel, by decide +kernel⟩, by decide +kernel, by decide +kernel, zix1 5 rfl rfl, by decide⟩
set_option maxRecDepth 100000 in
theorem zm_M_allOfStarts : zmP m_M_allOfStarts := ⟨zixd 158 rfl rfl, ⟨by decide +kernel, by decide +kernel, by decide +kernel⟩, by decide +kernel, by decide +kernel, zix1 5 rfl rfl, by decide⟩
set_option maxRecDepth 100000 in
theorem zm_M_behind : zmP m_M_behind := ⟨zixd 162 rfl rfl, ⟨by decide +kernel, by decide +kernel, by decide +kernel⟩, by decide +kernel, by decide +kernel, zix1 5 rfl rfl, by decide⟩
set_option maxRecDepth 100000 in
theorem zm_M_wrongBit : zmP m_M_wrongBit := ⟨zixd 165 rfl rfl, ⟨by decide +kernel, by decide +kernel, by decide +kernel⟩, by decide +kernel, by decide +kernel, zix1 5 rfl rfl, by decide⟩
set_option maxRecDepth 100000 in
theorem zm_M_watchersOf : zmP m_M_watchersOf := ⟨zixd 169 rfl rfl, ⟨by decide +kernel, by decide +kernel, by decide +kernel⟩, by decide +kernel, by decide +kernel, zix1 5 rfl rfl, by decide⟩
set_option maxRecDepth 100000 in
theorem zm_M_allStarts : zmP m_M_allStarts := ⟨zixd 173 rfl rfl, ⟨by decide +kernel, by decide +kernel, by decide +kernel⟩, by decide +kernel, by decide +kernel, zix1 5 rfl rfl, by decide⟩
set_option maxRecDepth 100000 in
theorem zm_M_first : zmP m_M_first := ⟨zixd 177 rfl rfl, ⟨by decide +kernel, by decide +kernel, by decide +kernel⟩, by decide +kernel, by decide +kernel, zix1 5 rfl rfl, by decide⟩
set_option maxRecDepth 100000 in
theorem zm_M_still : zmP m_M_still := ⟨zixd 181 rfl rfl, ⟨by decide +kernel, by decide +kernel, by decide +kernel⟩, by decide +kernel, by decide +kernel, zix1 5 rfl rfl, by decide⟩
set_option maxRecDepth 100000 in
theorem zm_M_unseen : zmP m_M_unseen := ⟨zixd 185 rfl rfl, ⟨by decide +kernel, by decide +kernel, by decide +kernel⟩, by decide +kernel, by decide +kernel, zix1 5 rfl rfl, by decide⟩
set_option maxRecDepth 100000 in
theorem zm_M_chain : zmP m_M_chain := ⟨zixd 189 rfl rfl, ⟨by decide +kernel, by decide +kernel, by decide +kernel⟩, by decide +kernel, by decide +kernel, zix1 5 rfl rfl, by decide⟩
set_option maxRecDepth 100000 in
theorem zm_M_chainFrom : zmP m_M_chainFrom := ⟨zixd 193 rfl rfl, ⟨by decide +kernel, by decide +kernel, by decide +kernel⟩, by decide +kernel, by decide +kernel, zix1 5 rfl rfl, by decide⟩
set_option maxRecDepth 100000 in
theorem zm_M_hasBit : zmP m_M_hasBit := ⟨zixd 196 rfl rfl, ⟨by decide +kernel, by decide +kernel, by decide +kernel⟩, by decide +kernel, by decide +kernel, zix1 5 rfl rfl, by decide⟩
set_option maxRecDepth 100000 in
theorem zm_M_onesOf : zmP m_M_onesOf := ⟨zixd 199 rfl rfl, ⟨by decide +kernel, by decide +kernel, by decide +kernel⟩, by decide +kernel, by decide +kernel, zix1 5 rfl rfl, by decide⟩
set_option maxRecDepth 100000 in
theorem zm_M_deepest : zmP m_M_deepest := ⟨zixd 203 rfl rfl, ⟨by decide +kernel, by decide +kernel, by decide +kernel⟩, by decide +kernel, by decide +kernel, zix1 5 rfl rfl, by decide⟩
set_option maxRecDepth 100000 in
theorem zm_M_knows : zmP m_M_knows := ⟨zixd 207 rfl rfl, ⟨by decide +kernel, by decide +kernel, by decide +kernel⟩, by decide +kernel, by decide +kernel, zix1 5 rfl rfl, by decide⟩
set_option maxRecDepth 100000 in
theorem zm_M_safe : zmP m_M_safe := ⟨zixd 211 rfl rfl, ⟨by decide +kernel, by decide +kernel, by decide +kernel⟩, by decide +kernel, by decide +kernel, zix1 5 rfl rfl, by decide⟩
set_option maxRecDepth 100000 in
theorem zm_M_alone : zmP m_M_alone := ⟨zixd 215 rfl rfl, ⟨by decide +kernel, by decide +kernel, by decide +kernel⟩, by decide +kernel, by decide +kernel, zix1 5 rfl rfl, by decide⟩
set_option maxRecDepth 100000 in
theorem zm_M_turnAll : zmP m_M_turnAll := ⟨zixd 219 rfl rfl, ⟨by decide +kernel, by decide +kernel, by decide +kernel⟩, by decide +kernel, by decide +kernel, zix1 5 rfl rfl, by decide⟩
set_option maxRecDepth 100000 in
theorem zm_M_post : zmP m_M_post := ⟨zixd 223 rfl rfl, ⟨by decide +kernel, by decide +kernel, by decide +kernel⟩, by decide +kernel, by decide +kernel, zix1 5 rfl rfl, by decide⟩
set_option maxRecDepth 100000 in
theorem zm_M_which : zmP m_M_which := ⟨zixd 227 rfl rfl, ⟨by decide +kernel, by decide +kernel, by decide +kernel⟩, by decide +kernel, by decide +kernel, zix1 5 rfl rfl, by decide⟩
set_option maxRecDepth 100000 in
theorem zm_M_isRow : zmP m_M_isRow := ⟨zixd 231 rfl rfl, ⟨by decide +kernel, by decide +kernel, by decide +kernel⟩, by decide +kernel, by decide +kernel, zix1 5 rfl rfl, by decide⟩
set_option maxRecDepth 100000 in
theorem zm_M_bestStep : zmP m_M_bestStep := ⟨zixd 235 rfl rfl, ⟨by decide +kernel, by decide +kernel, by decide +kernel⟩, by decide +kernel, by decide +kernel, zix1 5 rfl rfl, by decide⟩
set_option maxRecDepth 100000 in
theorem zm_M_stepFrom : zmP m_M_stepFrom := ⟨zixd 239 rfl rfl, ⟨by decide +kernel, by decide +kernel, by decide +kernel⟩, by decide +kernel, by decide +kernel, zix1 5 rfl rfl, by decide⟩
set_option maxRecDepth 100000 in
theorem zm_M_two : zmP m_M_two := ⟨zixe 3 rfl rfl, ⟨by decide +kernel, by decide +kernel, by decide +kernel⟩, by decide +kernel, by decide +kernel, zix1 5 rfl rfl, by decide⟩
set_option maxRecDepth 100000 in
theorem zm_M_areTwo : zmP m_M_areTwo := ⟨zixe 7 rfl rfl, ⟨by decide +kernel, by decide +kernel, by decide +kernel⟩, by decide +kernel, by decide +kernel, zix1 5 rfl rfl, by decide⟩
set_option maxRecDepth 100000 in
theorem zm_M_areResting : zmP m_M_areResting := ⟨zixe 11 rfl rfl, ⟨by decide +kernel, by decide +kernel, by decide +kernel⟩, by decide +kernel, by decide +kernel, zix1 5 rfl rfl, by decide⟩
set_option maxRecDepth 100000 in
theorem zm_M_slept : zmP m_M_slept := ⟨zixe 15 rfl rfl, ⟨by decide +kernel, by decide +kernel, by decide +kernel⟩, by decide +kernel, by decide +kernel, zix1 5 rfl rfl, by decide⟩
set_option maxRecDepth 100000 in
theorem zm_M_partOf : zmP m_M_partOf := ⟨zixe 19 rfl rfl, ⟨by decide +kernel, by decide +kernel, by decide +kernel⟩, by decide +kernel, by decide +kernel, zix1 5 rfl rfl, by decide⟩
set_option maxRecDepth 100000 in
theorem zm_M_divisor : zmP m_M_divisor := ⟨zixe 22 rfl rfl, ⟨by decide +kernel, by decide +kernel, by decide +kernel⟩, by decide +kernel, by decide +kernel, zix1 5 rfl rfl, by decide⟩
set_option maxRecDepth 100000 in
theorem zm_M_busiest : zmP m_M_busiest := ⟨zixe 26 rfl rfl, ⟨by decide +kernel, by decide +kernel, by decide +kernel⟩, by decide +kernel, by decide +kernel, zix1 5 rfl rfl, by decide⟩
set_option maxRecDepth 100000 in
theorem zm_M_twos : zmP m_M_twos := ⟨zixe 30 rfl rfl, ⟨by decide +kernel, by decide +kernel, by decide +kernel⟩, by decide +kernel, by decide +kernel, zix1 5 rfl rfl, by decide⟩
set_option maxRecDepth 100000 in
theorem zm_M_nearest : zmP m_M_nearest := ⟨zixe 34 rfl rfl, ⟨by decide +kernel, by decide +kernel, by decide +kernel⟩, by decide +kernel, by decide +kernel, zix1 5 rfl rfl, by decide⟩
set_option maxRecDepth 100000 in
theorem zm_M_apart : zmP m_M_apart := ⟨zixe 37 rfl rfl, ⟨by decide +kernel, by decide +kernel, by decide +kernel⟩, by decide +kernel, by decide +kernel, zix1 5 rfl rfl, by decide⟩
set_option maxRecDepth 100000 in
theorem zm_M_lines : zmP m_M_lines := ⟨zixe 41 rfl rfl, ⟨by decide +kernel, by decide +kernel, by decide +kernel⟩, by decide +kernel, by decide +kernel, zix1 5 rfl rfl, by decide⟩
set_option maxRecDepth 100000 in
theorem zm_M_hidden : zmP m_M_hidden := ⟨zixe 45 rfl rfl, ⟨by decide +kernel, by decide +kernel, by decide +kernel⟩, by decide +kernel, by decide +kernel, zix1 5 rfl rfl, by decide⟩
set_option maxRecDepth 100000 in
theorem zm_M_longest : zmP m_M_longest := ⟨zixe 49 rfl rfl, ⟨by decide +kernel, by decide +kernel, by decide +kernel⟩, by decide +kernel, by decide +kernel, zix1 5 rfl rfl, by decide⟩
set_option maxRecDepth 100000 in
theorem zm_M_walks : zmP m_M_walks := ⟨zixe 53 rfl rfl, ⟨by decide +kernel, by decide +kernel, by decide +kernel⟩, by decide +kernel, by decide +kernel, zix1 5 rfl rfl, by decide⟩
set_option maxRecDepth 100000 in
theorem zm_M_meets : zmP m_M_meets := ⟨zixe 57 rfl rfl, ⟨by decide +kernel, by decide +kernel, by decide +kernel⟩, by decide +kernel, by decide +kernel, zix1 5 rfl rfl, by decide⟩
set_option maxRecDepth 100000 in
theorem zm_M_leave : zmP m_M_leave := ⟨zixe 61 rfl rfl, ⟨by decide +kernel, by decide +kernel, by decide +kernel⟩, by decide +kernel, by decide +kernel, zix1 5 rfl rfl, by decide⟩
set_option maxRecDepth 100000 in
theorem zm_M_most : zmP m_M_most := ⟨zixe 65 rfl rfl, ⟨by decide +kernel, by decide +kernel, by decide +kernel⟩, by decide +kernel, by decide +kernel, zix1 5 rfl rfl, by decide⟩
set_option maxRecDepth 100000 in
theorem zm_M_quiet : zmP m_M_quiet := ⟨zixe 69 rfl rfl, ⟨by decide +kernel, by decide +kernel, by decide +kernel⟩, by decide +kernel, by decide +kernel, zix1 5 rfl rfl, by decide⟩
set_option maxRecDepth 100000 in
theorem zm_M_row : zmP m_M_row := ⟨zixe 73 rfl rfl, ⟨by decide +kernel, by decide +kernel, by decide +kernel⟩, by decide +kernel, by decide +kernel, zix1 5 rfl rfl, by decide⟩
set_option maxRecDepth 100000 in
theorem zm_M_judge : zmP m_M_judge := ⟨zixe 77 rfl rfl, ⟨by decide +kernel, by decide +kernel, by decide +kernel⟩, by decide +kernel, by decide +kernel, zix1 5 rfl rfl, by decide⟩
set_option maxRecDepth 100000 in
theorem zm_M_clear : zmP m_M_clear := ⟨zixe 81 rfl rfl, ⟨by decide +kernel, by decide +kernel, by decide +kernel⟩, by decide +kernel, by decide +kernel, zix1 5 rfl rfl, by decide⟩
set_option maxRecDepth 100000 in
theorem zm_M_lots : zmP m_M_lots := ⟨zixe 85 rfl rfl, ⟨by decide +kernel, by decide +kernel, by decide +kernel⟩, by decide +kernel, by decide +kernel, zix1 5 rfl rfl, by decide⟩
set_option maxRecDepth 100000 in
theorem zm_M_drawBelow : zmP m_M_drawBelow := ⟨zixe 89 rfl rfl, ⟨by decide +kernel, by decide +kernel, by decide +kernel⟩, by decide +kernel, by decide +kernel, zix1 5 rfl rfl, by decide⟩
set_option maxRecDepth 100000 in
theorem zm_M_count : zmP m_M_count := ⟨zixe 96 rfl rfl, ⟨by decide +kernel, by decide +kernel, by decide +kernel⟩, by decide +kernel, by decide +kernel, zix1 5 rfl rfl, by decide⟩
def zmtK (o ix : Nat) (m : zM) : Nat → Prop
  | 0 => Jvm.Cond.methodLink (zcn o) ix (zn m) ∈ zTs ∧ Jvm.Cond.instanceMethod (zn m) ∈ zTs ∧ Jvm.Cond.selects (zcn (zo m)) (zn m) (zn m) ∈ zTs ∧ zo m < 5
  | 1 => Jvm.Cond.methodLinkNest (zcn o) ix (zn m) "SeenFromBehind" ∈ zTs ∧ Jvm.Cond.instanceMethod (zn m) ∈ zTs ∧ Jvm.Cond.selects (zcn (zo m)) (zn m) (zn m) ∈ zTs ∧ zo m < 5
  | 2 => Jvm.Cond.methodLink (zcn o) ix (zn m) ∈ zTs ∧ Jvm.Cond.static (zn m) ∈ zTs
  | 3 => Jvm.Cond.methodLinkNest (zcn o) ix (zn m) "SeenFromBehind" ∈ zTs ∧ Jvm.Cond.static (zn m) ∈ zTs
  | 4 => Jvm.Cond.methodLink (zcn o) ix (zn m) ∈ zTs ∧ Jvm.Cond.instanceMethod (zn m) ∈ zTs ∧ (zn m).name = "<init>" ∧ zrt m = none
  | 5 => Jvm.Cond.methodLinkNest (zcn o) ix (zn m) "SeenFromBehind" ∈ zTs ∧ Jvm.Cond.instanceMethod (zn m) ∈ zTs ∧ (zn m).name = "<init>" ∧ zrt m = none
  | _ => False
def zmtP (q : Nat × Nat × Nat × zM) : Prop := zmP q.2.2.2 ∧ zmtK q.1 q.2.1 q.2.2.2 q.2.2.1
set_option maxRecDepth 100000 in
theorem zmt_ok_0 : zmtP (0, 40, 3, m_X_at) := ⟨zm_X_at, zix1 156 rfl rfl, zix1 130 rfl rfl⟩
set_option maxRecDepth 100000 in
theorem zmt_ok_1 : zmtP (0, 44, 3, m_X_put) := ⟨zm_X_put, zix1 157 rfl rfl, zix1 133 rfl rfl⟩
set_option maxRecDepth 100000 in
theorem zmt_ok_2 : zmtP (0, 48, 3, m_X_bitOf) := ⟨zm_X_bitOf, zixb 9 rfl rfl, zixb 10 rfl rfl⟩
set_option maxRecDepth 100000 in
theorem zmt_ok_3 : zmtP (0, 52, 3, m_X_reach) := ⟨zm_X_reach, zixb 27 rfl rfl, zixb 28 rfl rfl⟩
set_option maxRecDepth 100000 in
theorem zmt_ok_4 : zmtP (0, 56, 3, m_X_depth) := ⟨zm_X_depth, zix1 239 rfl rfl, zixb 0 rfl rfl⟩
set_option maxRecDepth 100000 in
theorem zmt_ok_5 : zmtP (0, 59, 0, m_H_whoIsAt) := ⟨zm_H_whoIsAt, zix1 190 rfl rfl, zix1 192 rfl rfl, zix2 9 rfl rfl, by decide⟩
set_option maxRecDepth 100000 in
theorem zmt_ok_6 : zmtP (0, 62, 3, m_X_rowOf) := ⟨zm_X_rowOf, zixc 44 rfl rfl, zixc 45 rfl rfl⟩
set_option maxRecDepth 100000 in
theorem zmt_ok_7 : zmtP (0, 70, 3, m_X_columnOf) := ⟨zm_X_columnOf, zixc 50 rfl rfl, zixc 51 rfl rfl⟩
set_option maxRecDepth 100000 in
theorem zmt_ok_8 : zmtP (0, 73, 3, m_X_cellBeside) := ⟨zm_X_cellBeside, zixb 6 rfl rfl, zixb 7 rfl rfl⟩
set_option maxRecDepth 100000 in
theorem zmt_ok_9 : zmtP (0, 76, 0, m_H_isFree) := ⟨zm_H_isFree, zixb 38 rfl rfl, zix1 188 rfl rfl, zix2 8 rfl rfl, by decide⟩
set_option maxRecDepth 100000 in
theorem zmt_ok_10 : zmtP (0, 80, 0, m_H_reachOf) := ⟨zm_H_reachOf, zixb 23 rfl rfl, zixb 25 rfl rfl, zix2 22 rfl rfl, by decide⟩
set_option maxRecDepth 100000 in
theorem zmt_ok_11 : zmtP (0, 83, 0, m_H_nextTo) := ⟨zm_H_nextTo, zixb 2 rfl rfl, zixb 4 rfl rfl, zix2 19 rfl rfl, by decide⟩
set_option maxRecDepth 100000 in
theorem zmt_ok_12 : zmtP (0, 87, 3, m_X_turned) := ⟨zm_X_turned, zix1 232 rfl rfl, zix1 233 rfl rfl⟩
set_option maxRecDepth 100000 in
theorem zmt_ok_13 : zmtP (0, 90, 0, m_H_depthOf) := ⟨zm_H_depthOf, zix1 235 rfl rfl, zix1 237 rfl rfl, zix2 18 rfl rfl, by decide⟩
set_option maxRecDepth 100000 in
theorem zmt_ok_14 : zmtP (0, 93, 0, m_H_ahead) := ⟨zm_H_ahead, zixb 19 rfl rfl, zixb 21 rfl rfl, zix2 21 rfl rfl, by decide⟩
set_option maxRecDepth 100000 in
theorem zmt_ok_15 : zmtP (0, 96, 0, m_H_inLens) := ⟨zm_H_inLens, zix1 228 rfl rfl, zix1 230 rfl rfl, zix2 17 rfl rfl, by decide⟩
set_option maxRecDepth 100000 in
theorem zmt_ok_16 : zmtP (0, 99, 0, m_H_nightWithout) := ⟨zm_H_nightWithout, zix1 224 rfl rfl, zix1 226 rfl rfl, zix2 16 rfl rfl, by decide⟩
set_option maxRecDepth 100000 in
theorem zmt_ok_17 : zmtP (0, 106, 0, m_H_stirs) := ⟨zm_H_stirs, zixb 15 rfl rfl, zixb 17 rfl rfl, zix2 20 rfl rfl, by decide⟩
set_option maxRecDepth 100000 in
theorem zmt_ok_18 : zmtP (0, 110, 0, m_H_turnsBy) := ⟨zm_H_turnsBy, zixb 30 rfl rfl, zixb 32 rfl rfl, zix2 23 rfl rfl, by decide⟩
set_option maxRecDepth 100000 in
theorem zmt_ok_19 : zmtP (0, 113, 0, m_H_stepsTo) := ⟨zm_H_stepsTo, zixb 34 rfl rfl, zixb 36 rfl rfl, zix2 24 rfl rfl, by decide⟩
set_option maxRecDepth 100000 in
theorem zmt_ok_20 : zmtP (1, 24, 5, m_H_init) := ⟨zm_H_init, zix1 64 rfl rfl, zix1 19 rfl rfl, rfl, rfl⟩
set_option maxRecDepth 100000 in
theorem zmt_ok_21 : zmtP (1, 25, 0, m_P_placeAt) := ⟨zm_P_placeAt, zixb 91 rfl rfl, zixb 93 rfl rfl, zix2 33 rfl rfl, by decide⟩
set_option maxRecDepth 100000 in
theorem zmt_ok_22 : zmtP (1, 29, 1, m_H_become) := ⟨zm_H_become, zixb 95 rfl rfl, zix1 154 rfl rfl, zix2 3 rfl rfl, by decide⟩
set_option maxRecDepth 100000 in
theorem zmt_ok_23 : zmtP (2, 19, 3, m_X_put) := ⟨zm_X_put, zix1 139 rfl rfl, zix1 133 rfl rfl⟩
set_option maxRecDepth 100000 in
theorem zmt_ok_24 : zmtP (2, 23, 3, m_X_at) := ⟨zm_X_at, zix1 148 rfl rfl, zix1 130 rfl rfl⟩
set_option maxRecDepth 100000 in
theorem zmt_ok_25 : zmtP (2, 27, 2, m_T_digitsBehind) := ⟨zm_T_digitsBehind, zix1 149 rfl rfl, zix1 150 rfl rfl⟩
set_option maxRecDepth 100000 in
theorem zmt_ok_26 : zmtP (2, 31, 0, m_T_digit) := ⟨zm_T_digit, zix1 166 rfl rfl, zix1 168 rfl rfl, zix2 6 rfl rfl, by decide⟩
set_option maxRecDepth 100000 in
theorem zmt_ok_27 : zmtP (2, 34, 0, m_T_number) := ⟨zm_T_number, zix1 170 rfl rfl, zix1 172 rfl rfl, zix2 7 rfl rfl, by decide⟩
set_option maxRecDepth 100000 in
theorem zmt_ok_28 : zmtP (2, 37, 2, m_T_joins) := ⟨zm_T_joins, zix1 174 rfl rfl, zix1 175 rfl rfl⟩
set_option maxRecDepth 100000 in
theorem zmt_ok_29 : zmtP (2, 41, 2, m_T_facesSo) := ⟨zm_T_facesSo, zix1 198 rfl rfl, zix1 199 rfl rfl⟩
set_option maxRecDepth 100000 in
theorem zmt_ok_30 : zmtP (2, 45, 2, m_T_changesCell) := ⟨zm_T_changesCell, zix1 209 rfl rfl, zix1 210 rfl rfl⟩
set_option maxRecDepth 100000 in
theorem zmt_ok_31 : zmtP (2, 48, 1, m_H_hasRoomFor) := ⟨zm_H_hasRoomFor, zix1 216 rfl rfl, zix1 218 rfl rfl, zix2 14 rfl rfl, by decide⟩
set_option maxRecDepth 100000 in
theorem zmt_ok_32 : zmtP (2, 54, 1, m_H_pass) := ⟨zm_H_pass, zix1 220 rfl rfl, zix1 222 rfl rfl, zix2 15 rfl rfl, by decide⟩
set_option maxRecDepth 100000 in
theorem zmt_ok_33 : zmtP (2, 58, 3, m_X_isKind) := ⟨zm_X_isKind, zix1 177 rfl rfl, zix1 178 rfl rfl⟩
set_option maxRecDepth 100000 in
theorem zmt_ok_34 : zmtP (2, 61, 3, m_X_isCell) := ⟨zm_X_isCell, zix1 180 rfl rfl, zix1 181 rfl rfl⟩
set_option maxRecDepth 100000 in
theorem zmt_ok_35 : zmtP (2, 64, 3, m_X_isWay) := ⟨zm_X_isWay, zix1 183 rfl rfl, zix1 184 rfl rfl⟩
set_option maxRecDepth 100000 in
theorem zmt_ok_36 : zmtP (2, 68, 1, m_H_isFree) := ⟨zm_H_isFree, zix1 186 rfl rfl, zix1 188 rfl rfl, zix2 8 rfl rfl, by decide⟩
set_option maxRecDepth 100000 in
theorem zmt_ok_37 : zmtP (2, 71, 1, m_H_join) := ⟨zm_H_join, zix1 194 rfl rfl, zix1 196 rfl rfl, zix2 10 rfl rfl, by decide⟩
set_option maxRecDepth 100000 in
theorem zmt_ok_38 : zmtP (2, 75, 1, m_H_has) := ⟨zm_H_has, zix1 201 rfl rfl, zix1 203 rfl rfl, zix2 11 rfl rfl, by decide⟩
set_option maxRecDepth 100000 in
theorem zmt_ok_39 : zmtP (2, 78, 1, m_H_face) := ⟨zm_H_face, zix1 205 rfl rfl, zix1 207 rfl rfl, zix2 12 rfl rfl, by decide⟩
set_option maxRecDepth 100000 in
theorem zmt_ok_40 : zmtP (2, 82, 1, m_H_place) := ⟨zm_H_place, zix1 212 rfl rfl, zix1 214 rfl rfl, zix2 13 rfl rfl, by decide⟩
set_option maxRecDepth 100000 in
theorem zmt_ok_41 : zmtP (3, 9, 5, m_H_init) := ⟨zm_H_init, zix1 18 rfl rfl, zix1 19 rfl rfl, rfl, rfl⟩
set_option maxRecDepth 100000 in
theorem zmt_ok_42 : zmtP (3, 32, 5, m_P_init) := ⟨zm_P_init, zix1 59 rfl rfl, zix1 60 rfl rfl, rfl, rfl⟩
set_option maxRecDepth 100000 in
theorem zmt_ok_43 : zmtP (3, 39, 5, m_T_init) := ⟨zm_T_init, zix1 78 rfl rfl, zix1 79 rfl rfl, rfl, rfl⟩
set_option maxRecDepth 100000 in
theorem zmt_ok_44 : zmtP (3, 55, 0, m_X_refuse) := ⟨zm_X_refuse, zix1 125 rfl rfl, zix1 127 rfl rfl, zix2 0 rfl rfl, by decide⟩
set_option maxRecDepth 100000 in
theorem zmt_ok_45 : zmtP (3, 62, 1, m_T_append) := ⟨zm_T_append, zix1 135 rfl rfl, zix1 137 rfl rfl, zix2 1 rfl rfl, by decide⟩
set_option maxRecDepth 100000 in
theorem zmt_ok_46 : zmtP (3, 65, 1, m_T_wrongPlace) := ⟨zm_T_wrongPlace, zix1 144 rfl rfl, zix1 146 rfl rfl, zix2 2 rfl rfl, by decide⟩
set_option maxRecDepth 100000 in
theorem zmt_ok_47 : zmtP (3, 69, 1, m_H_become) := ⟨zm_H_become, zix1 152 rfl rfl, zix1 154 rfl rfl, zix2 3 rfl rfl, by decide⟩
set_option maxRecDepth 100000 in
theorem zmt_ok_48 : zmtP (3, 73, 1, m_T_beginsStatement) := ⟨zm_T_beginsStatement, zix1 158 rfl rfl, zix1 160 rfl rfl, zix2 4 rfl rfl, by decide⟩
set_option maxRecDepth 100000 in
theorem zmt_ok_49 : zmtP (3, 77, 1, m_T_comesTo) := ⟨zm_T_comesTo, zix1 162 rfl rfl, zix1 164 rfl rfl, zix2 5 rfl rfl, by decide⟩
set_option maxRecDepth 100000 in
theorem zmt_ok_50 : zmtP (3, 81, 1, m_T_forget) := ⟨zm_T_forget, zixb 39 rfl rfl, zixb 41 rfl rfl, zix2 25 rfl rfl, by decide⟩
set_option maxRecDepth 100000 in
theorem zmt_ok_51 : zmtP (3, 84, 1, m_P_forget) := ⟨zm_P_forget, zixb 43 rfl rfl, zixb 45 rfl rfl, zix2 26 rfl rfl, by decide⟩
set_option maxRecDepth 100000 in
theorem zmt_ok_52 : zmtP (3, 85, 1, m_H_has) := ⟨zm_H_has, zixb 51 rfl rfl, zix1 203 rfl rfl, zix2 11 rfl rfl, by decide⟩
set_option maxRecDepth 100000 in
theorem zmt_ok_53 : zmtP (3, 88, 1, m_H_kindOf) := ⟨zm_H_kindOf, zixb 52 rfl rfl, zixb 54 rfl rfl, zix2 27 rfl rfl, by decide⟩
set_option maxRecDepth 100000 in
theorem zmt_ok_54 : zmtP (3, 91, 1, m_H_figureOf) := ⟨zm_H_figureOf, zixb 56 rfl rfl, zixb 58 rfl rfl, zix2 28 rfl rfl, by decide⟩
set_option maxRecDepth 100000 in
theorem zmt_ok_55 : zmtP (3, 94, 1, m_H_cellOf) := ⟨zm_H_cellOf, zixb 60 rfl rfl, zixb 62 rfl rfl, zix2 29 rfl rfl, by decide⟩
set_option maxRecDepth 100000 in
theorem zmt_ok_56 : zmtP (3, 97, 1, m_H_facesOf) := ⟨zm_H_facesOf, zixb 64 rfl rfl, zixb 66 rfl rfl, zix2 30 rfl rfl, by decide⟩
set_option maxRecDepth 100000 in
theorem zmt_ok_57 : zmtP (3, 100, 1, m_H_startsOf) := ⟨zm_H_startsOf, zixb 68 rfl rfl, zixb 70 rfl rfl, zix2 31 rfl rfl, by decide⟩
set_option maxRecDepth 100000 in
theorem zmt_ok_58 : zmtP (3, 103, 1, m_H_reachOf) := ⟨zm_H_reachOf, zixb 72 rfl rfl, zixb 25 rfl rfl, zix2 22 rfl rfl, by decide⟩
set_option maxRecDepth 100000 in
theorem zmt_ok_59 : zmtP (3, 106, 1, m_H_depthOf) := ⟨zm_H_depthOf, zixb 73 rfl rfl, zix1 237 rfl rfl, zix2 18 rfl rfl, by decide⟩
set_option maxRecDepth 100000 in
theorem zmt_ok_60 : zmtP (3, 109, 2, m_X_isKind) := ⟨zm_X_isKind, zixb 78 rfl rfl, zix1 178 rfl rfl⟩
set_option maxRecDepth 100000 in
theorem zmt_ok_61 : zmtP (3, 113, 2, m_X_isCell) := ⟨zm_X_isCell, zixb 79 rfl rfl, zix1 181 rfl rfl⟩
set_option maxRecDepth 100000 in
theorem zmt_ok_62 : zmtP (3, 116, 2, m_X_isWay) := ⟨zm_X_isWay, zixb 80 rfl rfl, zix1 184 rfl rfl⟩
set_option maxRecDepth 100000 in
theorem zmt_ok_63 : zmtP (3, 119, 1, m_H_isFree) := ⟨zm_H_isFree, zixb 81 rfl rfl, zix1 188 rfl rfl, zix2 8 rfl rfl, by decide⟩
set_option maxRecDepth 100000 in
theorem zmt_ok_64 : zmtP (3, 122, 1, m_H_join) := ⟨zm_H_join, zixb 82 rfl rfl, zix1 196 rfl rfl, zix2 10 rfl rfl, by decide⟩
set_option maxRecDepth 100000 in
theorem zmt_ok_65 : zmtP (3, 126, 1, m_P_keep) := ⟨zm_P_keep, zixb 87 rfl rfl, zixb 89 rfl rfl, zix2 32 rfl rfl, by decide⟩
set_option maxRecDepth 100000 in
theorem zmt_ok_66 : zmtP (3, 129, 1, m_H_face) := ⟨zm_H_face, zixb 97 rfl rfl, zix1 207 rfl rfl, zix2 12 rfl rfl, by decide⟩
set_option maxRecDepth 100000 in
theorem zmt_ok_67 : zmtP (3, 133, 1, m_H_place) := ⟨zm_H_place, zixb 102 rfl rfl, zix1 214 rfl rfl, zix2 13 rfl rfl, by decide⟩
set_option maxRecDepth 100000 in
theorem zmt_ok_68 : zmtP (3, 136, 1, m_H_hasRoomFor) := ⟨zm_H_hasRoomFor, zixb 107 rfl rfl, zix1 218 rfl rfl, zix2 14 rfl rfl, by decide⟩
set_option maxRecDepth 100000 in
theorem zmt_ok_69 : zmtP (3, 139, 1, m_H_pass) := ⟨zm_H_pass, zixb 108 rfl rfl, zix1 222 rfl rfl, zix2 15 rfl rfl, by decide⟩
set_option maxRecDepth 100000 in
theorem zmt_ok_70 : zmtP (3, 143, 1, m_H_startsTogether) := ⟨zm_H_startsTogether, zixb 109 rfl rfl, zixb 111 rfl rfl, zix2 34 rfl rfl, by decide⟩
set_option maxRecDepth 100000 in
theorem zmt_ok_71 : zmtP (3, 147, 1, m_P_giveBack) := ⟨zm_P_giveBack, zixb 117 rfl rfl, zixb 119 rfl rfl, zix2 35 rfl rfl, by decide⟩
set_option maxRecDepth 100000 in
theorem zmt_ok_72 : zmtP (3, 151, 0, m_X_wrongNights) := ⟨zm_X_wrongNights, zixb 125 rfl rfl, zixb 127 rfl rfl, zix2 36 rfl rfl, by decide⟩
set_option maxRecDepth 100000 in
theorem zmt_ok_73 : zmtP (3, 155, 0, m_X_lookAhead) := ⟨zm_X_lookAhead, zixb 129 rfl rfl, zixb 131 rfl rfl, zix2 37 rfl rfl, by decide⟩
set_option maxRecDepth 100000 in
theorem zmt_ok_74 : zmtP (3, 158, 1, m_H_ahead) := ⟨zm_H_ahead, zixb 134 rfl rfl, zixb 21 rfl rfl, zix2 21 rfl rfl, by decide⟩
set_option maxRecDepth 100000 in
theorem zmt_ok_75 : zmtP (3, 161, 1, m_H_inLens) := ⟨zm_H_inLens, zixb 135 rfl rfl, zix1 230 rfl rfl, zix2 17 rfl rfl, by decide⟩
set_option maxRecDepth 100000 in
theorem zmt_ok_76 : zmtP (3, 164, 1, m_H_watchers) := ⟨zm_H_watchers, zixb 136 rfl rfl, zixb 138 rfl rfl, zix2 38 rfl rfl, by decide⟩
set_option maxRecDepth 100000 in
theorem zmt_ok_77 : zmtP (3, 167, 0, m_X_wrongWhat) := ⟨zm_X_wrongWhat, zixb 148 rfl rfl, zixb 150 rfl rfl, zix2 39 rfl rfl, by decide⟩
set_option maxRecDepth 100000 in
theorem zmt_ok_78 : zmtP (3, 171, 1, m_H_nightWithout) := ⟨zm_H_nightWithout, zixb 133 rfl rfl, zix1 226 rfl rfl, zix2 16 rfl rfl, by decide⟩
set_option maxRecDepth 100000 in
theorem zmt_ok_79 : zmtP (3, 177, 2, m_X_bitOf) := ⟨zm_X_bitOf, zixb 160 rfl rfl, zixb 10 rfl rfl⟩
set_option maxRecDepth 100000 in
theorem zmt_ok_80 : zmtP (3, 180, 1, m_H_everybody) := ⟨zm_H_everybody, zixb 161 rfl rfl, zixb 163 rfl rfl, zix2 40 rfl rfl, by decide⟩
set_option maxRecDepth 100000 in
theorem zmt_ok_81 : zmtP (3, 183, 1, m_H_chainOf) := ⟨zm_H_chainOf, zixb 169 rfl rfl, zixb 171 rfl rfl, zix2 41 rfl rfl, by decide⟩
set_option maxRecDepth 100000 in
theorem zmt_ok_82 : zmtP (3, 186, 1, m_H_seenBy) := ⟨zm_H_seenBy, zixb 181 rfl rfl, zixb 183 rfl rfl, zix2 42 rfl rfl, by decide⟩
set_option maxRecDepth 100000 in
theorem zmt_ok_83 : zmtP (3, 189, 1, m_H_seesAllWays) := ⟨zm_H_seesAllWays, zixb 197 rfl rfl, zixb 199 rfl rfl, zix2 43 rfl rfl, by decide⟩
set_option maxRecDepth 100000 in
theorem zmt_ok_84 : zmtP (3, 192, 1, m_H_facesToSeeUnseen) := ⟨zm_H_facesToSeeUnseen, zixb 205 rfl rfl, zixb 207 rfl rfl, zix2 44 rfl rfl, by decide⟩
set_option maxRecDepth 100000 in
theorem zmt_ok_85 : zmtP (3, 195, 1, m_H_beOfKind) := ⟨zm_H_beOfKind, zixb 213 rfl rfl, zixb 215 rfl rfl, zix2 45 rfl rfl, by decide⟩
set_option maxRecDepth 100000 in
theorem zmt_ok_86 : zmtP (3, 198, 1, m_H_beOfFigure) := ⟨zm_H_beOfFigure, zixb 217 rfl rfl, zixb 219 rfl rfl, zix2 46 rfl rfl, by decide⟩
set_option maxRecDepth 100000 in
theorem zmt_ok_87 : zmtP (3, 201, 0, m_X_turnsAsTold) := ⟨zm_X_turnsAsTold, zixb 221 rfl rfl, zixb 223 rfl rfl, zix2 47 rfl rfl, by decide⟩
set_option maxRecDepth 100000 in
theorem zmt_ok_88 : zmtP (3, 204, 1, m_H_cellOfStep) := ⟨zm_H_cellOfStep, zixb 229 rfl rfl, zixb 231 rfl rfl, zix2 48 rfl rfl, by decide⟩
set_option maxRecDepth 100000 in
theorem zmt_ok_89 : zmtP (3, 207, 2, m_J_bitCount) := ⟨zm_J_bitCount, zixb 233 rfl rfl, zixb 234 rfl rfl⟩
set_option maxRecDepth 100000 in
theorem zmt_ok_90 : zmtP (3, 212, 0, m_X_areTwo) := ⟨zm_X_areTwo, zixc 3 rfl rfl, zixc 5 rfl rfl, zix2 49 rfl rfl, by decide⟩
set_option maxRecDepth 100000 in
theorem zmt_ok_91 : zmtP (3, 216, 0, m_X_stepsSeenByFaces) := ⟨zm_X_stepsSeenByFaces, zixc 7 rfl rfl, zixc 9 rfl rfl, zix2 50 rfl rfl, by decide⟩
set_option maxRecDepth 100000 in
theorem zmt_ok_92 : zmtP (3, 219, 2, m_X_neitherHasBetter) := ⟨zm_X_neitherHasBetter, zixc 14 rfl rfl, zixc 15 rfl rfl⟩
set_option maxRecDepth 100000 in
theorem zmt_ok_93 : zmtP (3, 225, 2, m_X_waysToFace) := ⟨zm_X_waysToFace, zixc 22 rfl rfl, zixc 23 rfl rfl⟩
set_option maxRecDepth 100000 in
theorem zmt_ok_94 : zmtP (3, 229, 2, m_X_commonDivisor) := ⟨zm_X_commonDivisor, zixc 25 rfl rfl, zixc 26 rfl rfl⟩
set_option maxRecDepth 100000 in
theorem zmt_ok_95 : zmtP (3, 233, 1, m_H_cellsApart) := ⟨zm_H_cellsApart, zixc 40 rfl rfl, zixc 42 rfl rfl, zix2 51 rfl rfl, by decide⟩
set_option maxRecDepth 100000 in
theorem zmt_ok_96 : zmtP (3, 236, 2, m_X_rowOf) := ⟨zm_X_rowOf, zixc 57 rfl rfl, zixc 45 rfl rfl⟩
set_option maxRecDepth 100000 in
theorem zmt_ok_97 : zmtP (3, 239, 2, m_X_columnOf) := ⟨zm_X_columnOf, zixc 58 rfl rfl, zixc 51 rfl rfl⟩
set_option maxRecDepth 100000 in
theorem zmt_ok_98 : zmtP (3, 242, 1, m_H_nextTo) := ⟨zm_H_nextTo, zixc 63 rfl rfl, zixb 4 rfl rfl, zix2 19 rfl rfl, by decide⟩
set_option maxRecDepth 100000 in
theorem zmt_ok_99 : zmtP (3, 248, 2, m_X_put) := ⟨zm_X_put, zix1 132 rfl rfl, zix1 133 rfl rfl⟩
set_option maxRecDepth 100000 in
theorem zmt_ok_100 : zmtP (3, 252, 2, m_X_at) := ⟨zm_X_at, zix1 129 rfl rfl, zix1 130 rfl rfl⟩
set_option maxRecDepth 100000 in
theorem zmt_ok_101 : zmtP (3, 256, 2, m_X_nextSeed) := ⟨zm_X_nextSeed, zixc 104 rfl rfl, zixc 105 rfl rfl⟩
set_option maxRecDepth 100000 in
theorem zmt_ok_102 : zmtP (3, 259, 2, m_X_drawOf) := ⟨zm_X_drawOf, zixc 108 rfl rfl, zixc 109 rfl rfl⟩
set_option maxRecDepth 100000 in
theorem zmt_ok_103 : zmtP (3, 262, 1, m_H_howManySee) := ⟨zm_H_howManySee, zixc 113 rfl rfl, zixc 115 rfl rfl, zix2 52 rfl rfl, by decide⟩
set_option maxRecDepth 100000 in
theorem zmt_ok_104 : zmtP (3, 269, 2, m_X_pairBit) := ⟨zm_X_pairBit, zixc 11 rfl rfl, zixc 12 rfl rfl⟩
set_option maxRecDepth 100000 in
theorem zmt_ok_105 : zmtP (4, 68, 2, m_M_in) := ⟨zm_M_in, zixd 34 rfl rfl, zixd 35 rfl rfl⟩
set_option maxRecDepth 100000 in
theorem zmt_ok_106 : zmtP (4, 72, 0, m_M_isOne) := ⟨zm_M_isOne, zixd 61 rfl rfl, zixd 63 rfl rfl, zix2 64 rfl rfl, by decide⟩
set_option maxRecDepth 100000 in
theorem zmt_ok_107 : zmtP (4, 80, 2, m_M_straight) := ⟨zm_M_straight, zixd 86 rfl rfl, zixd 87 rfl rfl⟩
set_option maxRecDepth 100000 in
theorem zmt_ok_108 : zmtP (4, 84, 0, m_M_oneIn) := ⟨zm_M_oneIn, zixd 53 rfl rfl, zixd 55 rfl rfl, zix2 62 rfl rfl, by decide⟩
set_option maxRecDepth 100000 in
theorem zmt_ok_109 : zmtP (4, 88, 0, m_M_reachOf) := ⟨zm_M_reachOf, zixd 98 rfl rfl, zixd 100 rfl rfl, zix2 72 rfl rfl, by decide⟩
set_option maxRecDepth 100000 in
theorem zmt_ok_110 : zmtP (4, 91, 0, m_M_nextFrom) := ⟨zm_M_nextFrom, zixd 82 rfl rfl, zixd 84 rfl rfl, zix2 69 rfl rfl, by decide⟩
set_option maxRecDepth 100000 in
theorem zmt_ok_111 : zmtP (4, 94, 0, m_M_depthOf) := ⟨zm_M_depthOf, zixd 78 rfl rfl, zixd 80 rfl rfl, zix2 68 rfl rfl, by decide⟩
set_option maxRecDepth 100000 in
theorem zmt_ok_112 : zmtP (4, 97, 0, m_M_aheadOf) := ⟨zm_M_aheadOf, zixd 94 rfl rfl, zixd 96 rfl rfl, zix2 71 rfl rfl, by decide⟩
set_option maxRecDepth 100000 in
theorem zmt_ok_113 : zmtP (4, 103, 0, m_M_stepTo) := ⟨zm_M_stepTo, zixd 102 rfl rfl, zixd 104 rfl rfl, zix2 73 rfl rfl, by decide⟩
set_option maxRecDepth 100000 in
theorem zmt_ok_114 : zmtP (4, 113, 0, m_M_lensOf) := ⟨zm_M_lensOf, zixd 74 rfl rfl, zixd 76 rfl rfl, zix2 67 rfl rfl, by decide⟩
set_option maxRecDepth 100000 in
theorem zmt_ok_115 : zmtP (4, 116, 0, m_M_goesBy) := ⟨zm_M_goesBy, zixd 90 rfl rfl, zixd 92 rfl rfl, zix2 70 rfl rfl, by decide⟩
set_option maxRecDepth 100000 in
theorem zmt_ok_116 : zmtP (4, 119, 0, m_M_nightBy) := ⟨zm_M_nightBy, zixd 70 rfl rfl, zixd 72 rfl rfl, zix2 66 rfl rfl, by decide⟩
set_option maxRecDepth 100000 in
theorem zmt_ok_117 : zmtP (4, 123, 0, m_M_refuse) := ⟨zm_M_refuse, zixd 5 rfl rfl, zixd 7 rfl rfl, zix2 53 rfl rfl, by decide⟩
set_option maxRecDepth 100000 in
theorem zmt_ok_118 : zmtP (4, 136, 0, m_M_here) := ⟨zm_M_here, zixd 17 rfl rfl, zixd 19 rfl rfl, zix2 55 rfl rfl, by decide⟩
set_option maxRecDepth 100000 in
theorem zmt_ok_119 : zmtP (4, 144, 0, m_M_readDigits) := ⟨zm_M_readDigits, zixd 28 rfl rfl, zixd 30 rfl rfl, zix2 57 rfl rfl, by decide⟩
set_option maxRecDepth 100000 in
theorem zmt_ok_120 : zmtP (4, 150, 2, m_M_isLetter) := ⟨zm_M_isLetter, zixd 21 rfl rfl, zixd 22 rfl rfl⟩
set_option maxRecDepth 100000 in
theorem zmt_ok_121 : zmtP (4, 153, 0, m_M_readNumbers) := ⟨zm_M_readNumbers, zixd 24 rfl rfl, zixd 26 rfl rfl, zix2 56 rfl rfl, by decide⟩
set_option maxRecDepth 100000 in
theorem zmt_ok_122 : zmtP (4, 156, 0, m_M_oneComes) := ⟨zm_M_oneComes, zixd 57 rfl rfl, zixd 59 rfl rfl, zix2 63 rfl rfl, by decide⟩
set_option maxRecDepth 100000 in
theorem zmt_ok_123 : zmtP (4, 162, 0, m_M_goNights) := ⟨zm_M_goNights, zixd 66 rfl rfl, zixd 68 rfl rfl, zix2 65 rfl rfl, by decide⟩
set_option maxRecDepth 100000 in
theorem zmt_ok_124 : zmtP (4, 165, 0, m_M_readStatement) := ⟨zm_M_readStatement, zixd 13 rfl rfl, zixd 15 rfl rfl, zix2 54 rfl rfl, by decide⟩
set_option maxRecDepth 100000 in
theorem zmt_ok_125 : zmtP (4, 168, 0, m_M_think) := ⟨zm_M_think, zixd 37 rfl rfl, zixd 39 rfl rfl, zix2 58 rfl rfl, by decide⟩
set_option maxRecDepth 100000 in
theorem zmt_ok_126 : zmtP (4, 171, 0, m_M_comesTold) := ⟨zm_M_comesTold, zixd 49 rfl rfl, zixd 51 rfl rfl, zix2 61 rfl rfl, by decide⟩
set_option maxRecDepth 100000 in
theorem zmt_ok_127 : zmtP (4, 174, 0, m_M_again) := ⟨zm_M_again, zixd 106 rfl rfl, zixd 108 rfl rfl, zix2 74 rfl rfl, by decide⟩
set_option maxRecDepth 100000 in
theorem zmt_ok_128 : zmtP (4, 189, 0, m_M_carry) := ⟨zm_M_carry, zixd 45 rfl rfl, zixd 47 rfl rfl, zix2 60 rfl rfl, by decide⟩
set_option maxRecDepth 100000 in
theorem zmt_ok_129 : zmtP (4, 192, 0, m_M_carryAll) := ⟨zm_M_carryAll, zixd 41 rfl rfl, zixd 43 rfl rfl, zix2 59 rfl rfl, by decide⟩
set_option maxRecDepth 100000 in
theorem zmt_ok_130 : zmtP (4, 201, 2, m_M_wrongNumber) := ⟨zm_M_wrongNumber, zixd 131 rfl rfl, zixd 132 rfl rfl⟩
set_option maxRecDepth 100000 in
theorem zmt_ok_131 : zmtP (4, 204, 2, m_M_isCell) := ⟨zm_M_isCell, zixd 134 rfl rfl, zixd 135 rfl rfl⟩
set_option maxRecDepth 100000 in
theorem zmt_ok_132 : zmtP (4, 209, 0, m_M_keepTurn) := ⟨zm_M_keepTurn, zixd 143 rfl rfl, zixd 145 rfl rfl, zix2 75 rfl rfl, by decide⟩
set_option maxRecDepth 100000 in
theorem zmt_ok_133 : zmtP (4, 212, 0, m_M_allOfStarts) := ⟨zm_M_allOfStarts, zixd 155 rfl rfl, zixd 157 rfl rfl, zix2 76 rfl rfl, by decide⟩
set_option maxRecDepth 100000 in
theorem zmt_ok_134 : zmtP (4, 215, 2, m_M_wrongBit) := ⟨zm_M_wrongBit, zixd 163 rfl rfl, zixd 164 rfl rfl⟩
set_option maxRecDepth 100000 in
theorem zmt_ok_135 : zmtP (4, 218, 0, m_M_watchersOf) := ⟨zm_M_watchersOf, zixd 166 rfl rfl, zixd 168 rfl rfl, zix2 77 rfl rfl, by decide⟩
set_option maxRecDepth 100000 in
theorem zmt_ok_136 : zmtP (4, 221, 2, m_M_hasBit) := ⟨zm_M_hasBit, zixd 194 rfl rfl, zixd 195 rfl rfl⟩
set_option maxRecDepth 100000 in
theorem zmt_ok_137 : zmtP (4, 231, 2, m_M_onesOf) := ⟨zm_M_onesOf, zixd 197 rfl rfl, zixd 198 rfl rfl⟩
set_option maxRecDepth 100000 in
theorem zmt_ok_138 : zmtP (4, 234, 0, m_M_chainFrom) := ⟨zm_M_chainFrom, zixd 190 rfl rfl, zixd 192 rfl rfl, zix2 78 rfl rfl, by decide⟩
set_option maxRecDepth 100000 in
theorem zmt_ok_139 : zmtP (4, 240, 0, m_M_isRow) := ⟨zm_M_isRow, zixd 228 rfl rfl, zixd 230 rfl rfl, zix2 79 rfl rfl, by decide⟩
set_option maxRecDepth 100000 in
theorem zmt_ok_140 : zmtP (4, 243, 0, m_M_stepFrom) := ⟨zm_M_stepFrom, zixd 236 rfl rfl, zixd 238 rfl rfl, zix2 80 rfl rfl, by decide⟩
set_option maxRecDepth 100000 in
theorem zmt_ok_141 : zmtP (4, 247, 0, m_M_areTwo) := ⟨zm_M_areTwo, zixe 4 rfl rfl, zixe 6 rfl rfl, zix2 81 rfl rfl, by decide⟩
set_option maxRecDepth 100000 in
theorem zmt_ok_142 : zmtP (4, 250, 0, m_M_areResting) := ⟨zm_M_areResting, zixe 8 rfl rfl, zixe 10 rfl rfl, zix2 82 rfl rfl, by decide⟩
set_option maxRecDepth 100000 in
theorem zmt_ok_143 : zmtP (4, 253, 2, m_M_divisor) := ⟨zm_M_divisor, zixe 20 rfl rfl, zixe 21 rfl rfl⟩
set_option maxRecDepth 100000 in
theorem zmt_ok_144 : zmtP (4, 259, 2, m_M_partOf) := ⟨zm_M_partOf, zixe 17 rfl rfl, zixe 18 rfl rfl⟩
set_option maxRecDepth 100000 in
theorem zmt_ok_145 : zmtP (4, 263, 2, m_M_apart) := ⟨zm_M_apart, zixe 35 rfl rfl, zixe 36 rfl rfl⟩
set_option maxRecDepth 100000 in
theorem zmt_ok_146 : zmtP (4, 272, 0, m_M_drawBelow) := ⟨zm_M_drawBelow, zixe 86 rfl rfl, zixe 88 rfl rfl, zix2 83 rfl rfl, by decide⟩
set_option maxRecDepth 100000 in
theorem zmt_ok_147 : zmtP (5, 9, 4, m_X_init) := ⟨zm_X_init, zix1 10 rfl rfl, zix1 11 rfl rfl, rfl, rfl⟩
set_option maxRecDepth 100000 in
theorem zmt_ok_148 : zmtP (5, 12, 4, m_M_init) := ⟨zm_M_init, zixc 131 rfl rfl, zixc 132 rfl rfl, rfl, rfl⟩
set_option maxRecDepth 100000 in
theorem zmt_ok_149 : zmtP (5, 13, 0, m_X_feed) := ⟨zm_X_feed, zix1 121 rfl rfl, zix1 122 rfl rfl, zix1 123 rfl rfl, by decide⟩
set_option maxRecDepth 100000 in
theorem zmt_ok_150 : zmtP (5, 17, 0, m_M_feed) := ⟨zm_M_feed, zixd 1 rfl rfl, zixd 2 rfl rfl, zixd 3 rfl rfl, by decide⟩
set_option maxRecDepth 100000 in
theorem zmt_ok_151 : zmtP (5, 18, 0, m_X_hill) := ⟨zm_X_hill, zix1 140 rfl rfl, zix1 141 rfl rfl, zix1 142 rfl rfl, by decide⟩
set_option maxRecDepth 100000 in
theorem zmt_ok_152 : zmtP (5, 22, 0, m_M_hill) := ⟨zm_M_hill, zixd 9 rfl rfl, zixd 10 rfl rfl, zixd 11 rfl rfl, by decide⟩
set_option maxRecDepth 100000 in
theorem zmt_ok_153 : zmtP (5, 23, 0, m_X_personOf) := ⟨zm_X_personOf, zixb 47 rfl rfl, zixb 48 rfl rfl, zixb 49 rfl rfl, by decide⟩
set_option maxRecDepth 100000 in
theorem zmt_ok_154 : zmtP (5, 27, 0, m_M_personOf) := ⟨zm_M_personOf, zixd 122 rfl rfl, zixd 123 rfl rfl, zixd 124 rfl rfl, by decide⟩
set_option maxRecDepth 100000 in
theorem zmt_ok_155 : zmtP (5, 28, 0, m_X_person) := ⟨zm_X_person, zixb 74 rfl rfl, zixb 75 rfl rfl, zixb 76 rfl rfl, by decide⟩
set_option maxRecDepth 100000 in
theorem zmt_ok_156 : zmtP (5, 32, 0, m_M_person) := ⟨zm_M_person, zixd 127 rfl rfl, zixd 128 rfl rfl, zixd 129 rfl rfl, by decide⟩
set_option maxRecDepth 100000 in
theorem zmt_ok_157 : zmtP (5, 33, 0, m_X_turns) := ⟨zm_X_turns, zixb 83 rfl rfl, zixb 84 rfl rfl, zixb 85 rfl rfl, by decide⟩
set_option maxRecDepth 100000 in
theorem zmt_ok_158 : zmtP (5, 36, 0, m_M_turns) := ⟨zm_M_turns, zixd 139 rfl rfl, zixd 140 rfl rfl, zixd 141 rfl rfl, by decide⟩
set_option maxRecDepth 100000 in
theorem zmt_ok_159 : zmtP (5, 37, 0, m_X_stands) := ⟨zm_X_stands, zixb 98 rfl rfl, zixb 99 rfl rfl, zixb 100 rfl rfl, by decide⟩
set_option maxRecDepth 100000 in
theorem zmt_ok_160 : zmtP (5, 40, 0, m_M_stands) := ⟨zm_M_stands, zixd 147 rfl rfl, zixd 148 rfl rfl, zixd 149 rfl rfl, by decide⟩
set_option maxRecDepth 100000 in
theorem zmt_ok_161 : zmtP (5, 41, 0, m_X_nights) := ⟨zm_X_nights, zixb 103 rfl rfl, zixb 104 rfl rfl, zixb 105 rfl rfl, by decide⟩
set_option maxRecDepth 100000 in
theorem zmt_ok_162 : zmtP (5, 44, 0, m_M_nights) := ⟨zm_M_nights, zixd 151 rfl rfl, zixd 152 rfl rfl, zixd 153 rfl rfl, by decide⟩
set_option maxRecDepth 100000 in
theorem zmt_ok_163 : zmtP (5, 45, 0, m_X_back) := ⟨zm_X_back, zixb 113 rfl rfl, zixb 114 rfl rfl, zixb 115 rfl rfl, by decide⟩
set_option maxRecDepth 100000 in
theorem zmt_ok_164 : zmtP (5, 48, 0, m_M_back) := ⟨zm_M_back, zixd 118 rfl rfl, zixd 119 rfl rfl, zixd 120 rfl rfl, by decide⟩
set_option maxRecDepth 100000 in
theorem zmt_ok_165 : zmtP (5, 49, 0, m_X_behind) := ⟨zm_X_behind, zixb 121 rfl rfl, zixb 122 rfl rfl, zixb 123 rfl rfl, by decide⟩
set_option maxRecDepth 100000 in
theorem zmt_ok_166 : zmtP (5, 53, 0, m_M_behind) := ⟨zm_M_behind, zixd 159 rfl rfl, zixd 160 rfl rfl, zixd 161 rfl rfl, by decide⟩
set_option maxRecDepth 100000 in
theorem zmt_ok_167 : zmtP (5, 54, 0, m_X_allStarts) := ⟨zm_X_allStarts, zixb 140 rfl rfl, zixb 141 rfl rfl, zixb 142 rfl rfl, by decide⟩
set_option maxRecDepth 100000 in
theorem zmt_ok_168 : zmtP (5, 57, 0, m_M_allStarts) := ⟨zm_M_allStarts, zixd 170 rfl rfl, zixd 171 rfl rfl, zixd 172 rfl rfl, by decide⟩
set_option maxRecDepth 100000 in
theorem zmt_ok_169 : zmtP (5, 58, 0, m_X_first) := ⟨zm_X_first, zixb 144 rfl rfl, zixb 145 rfl rfl, zixb 146 rfl rfl, by decide⟩
set_option maxRecDepth 100000 in
theorem zmt_ok_170 : zmtP (5, 61, 0, m_M_first) := ⟨zm_M_first, zixd 174 rfl rfl, zixd 175 rfl rfl, zixd 176 rfl rfl, by decide⟩
set_option maxRecDepth 100000 in
theorem zmt_ok_171 : zmtP (5, 62, 0, m_X_still) := ⟨zm_X_still, zixb 152 rfl rfl, zixb 153 rfl rfl, zixb 154 rfl rfl, by decide⟩
set_option maxRecDepth 100000 in
theorem zmt_ok_172 : zmtP (5, 65, 0, m_M_still) := ⟨zm_M_still, zixd 178 rfl rfl, zixd 179 rfl rfl, zixd 180 rfl rfl, by decide⟩
set_option maxRecDepth 100000 in
theorem zmt_ok_173 : zmtP (5, 66, 0, m_X_unseen) := ⟨zm_X_unseen, zixb 156 rfl rfl, zixb 157 rfl rfl, zixb 158 rfl rfl, by decide⟩
set_option maxRecDepth 100000 in
theorem zmt_ok_174 : zmtP (5, 69, 0, m_M_unseen) := ⟨zm_M_unseen, zixd 182 rfl rfl, zixd 183 rfl rfl, zixd 184 rfl rfl, by decide⟩
set_option maxRecDepth 100000 in
theorem zmt_ok_175 : zmtP (5, 70, 0, m_X_chain) := ⟨zm_X_chain, zixb 165 rfl rfl, zixb 166 rfl rfl, zixb 167 rfl rfl, by decide⟩
set_option maxRecDepth 100000 in
theorem zmt_ok_176 : zmtP (5, 73, 0, m_M_chain) := ⟨zm_M_chain, zixd 186 rfl rfl, zixd 187 rfl rfl, zixd 188 rfl rfl, by decide⟩
set_option maxRecDepth 100000 in
theorem zmt_ok_177 : zmtP (5, 74, 0, m_X_deepest) := ⟨zm_X_deepest, zixb 173 rfl rfl, zixb 174 rfl rfl, zixb 175 rfl rfl, by decide⟩
set_option maxRecDepth 100000 in
theorem zmt_ok_178 : zmtP (5, 77, 0, m_M_deepest) := ⟨zm_M_deepest, zixd 200 rfl rfl, zixd 201 rfl rfl, zixd 202 rfl rfl, by decide⟩
set_option maxRecDepth 100000 in
theorem zmt_ok_179 : zmtP (5, 78, 0, m_X_knows) := ⟨zm_X_knows, zixb 177 rfl rfl, zixb 178 rfl rfl, zixb 179 rfl rfl, by decide⟩
set_option maxRecDepth 100000 in
theorem zmt_ok_180 : zmtP (5, 81, 0, m_M_knows) := ⟨zm_M_knows, zixd 204 rfl rfl, zixd 205 rfl rfl, zixd 206 rfl rfl, by decide⟩
set_option maxRecDepth 100000 in
theorem zmt_ok_181 : zmtP (5, 82, 0, m_X_safe) := ⟨zm_X_safe, zixb 185 rfl rfl, zixb 186 rfl rfl, zixb 187 rfl rfl, by decide⟩
set_option maxRecDepth 100000 in
theorem zmt_ok_182 : zmtP (5, 85, 0, m_M_safe) := ⟨zm_M_safe, zixd 208 rfl rfl, zixd 209 rfl rfl, zixd 210 rfl rfl, by decide⟩
set_option maxRecDepth 100000 in
theorem zmt_ok_183 : zmtP (5, 86, 0, m_X_alone) := ⟨zm_X_alone, zixb 189 rfl rfl, zixb 190 rfl rfl, zixb 191 rfl rfl, by decide⟩
set_option maxRecDepth 100000 in
theorem zmt_ok_184 : zmtP (5, 89, 0, m_M_alone) := ⟨zm_M_alone, zixd 212 rfl rfl, zixd 213 rfl rfl, zixd 214 rfl rfl, by decide⟩
set_option maxRecDepth 100000 in
theorem zmt_ok_185 : zmtP (5, 90, 0, m_X_turnAll) := ⟨zm_X_turnAll, zixb 193 rfl rfl, zixb 194 rfl rfl, zixb 195 rfl rfl, by decide⟩
set_option maxRecDepth 100000 in
theorem zmt_ok_186 : zmtP (5, 93, 0, m_M_turnAll) := ⟨zm_M_turnAll, zixd 216 rfl rfl, zixd 217 rfl rfl, zixd 218 rfl rfl, by decide⟩
set_option maxRecDepth 100000 in
theorem zmt_ok_187 : zmtP (5, 94, 0, m_X_post) := ⟨zm_X_post, zixb 201 rfl rfl, zixb 202 rfl rfl, zixb 203 rfl rfl, by decide⟩
set_option maxRecDepth 100000 in
theorem zmt_ok_188 : zmtP (5, 97, 0, m_M_post) := ⟨zm_M_post, zixd 220 rfl rfl, zixd 221 rfl rfl, zixd 222 rfl rfl, by decide⟩
set_option maxRecDepth 100000 in
theorem zmt_ok_189 : zmtP (5, 98, 0, m_X_which) := ⟨zm_X_which, zixb 209 rfl rfl, zixb 210 rfl rfl, zixb 211 rfl rfl, by decide⟩
set_option maxRecDepth 100000 in
theorem zmt_ok_190 : zmtP (5, 101, 0, m_M_which) := ⟨zm_M_which, zixd 224 rfl rfl, zixd 225 rfl rfl, zixd 226 rfl rfl, by decide⟩
set_option maxRecDepth 100000 in
theorem zmt_ok_191 : zmtP (5, 102, 0, m_X_bestStep) := ⟨zm_X_bestStep, zixb 225 rfl rfl, zixb 226 rfl rfl, zixb 227 rfl rfl, by decide⟩
set_option maxRecDepth 100000 in
theorem zmt_ok_192 : zmtP (5, 105, 0, m_M_bestStep) := ⟨zm_M_bestStep, zixd 232 rfl rfl, zixd 233 rfl rfl, zixd 234 rfl rfl, by decide⟩
set_option maxRecDepth 100000 in
theorem zmt_ok_193 : zmtP (5, 106, 0, m_X_two) := ⟨zm_X_two, zixb 239 rfl rfl, zixc 0 rfl rfl, zixc 1 rfl rfl, by decide⟩
set_option maxRecDepth 100000 in
theorem zmt_ok_194 : zmtP (5, 109, 0, m_M_two) := ⟨zm_M_two, zixe 0 rfl rfl, zixe 1 rfl rfl, zixe 2 rfl rfl, by decide⟩
set_option maxRecDepth 100000 in
theorem zmt_ok_195 : zmtP (5, 110, 0, m_X_slept) := ⟨zm_X_slept, zixc 17 rfl rfl, zixc 18 rfl rfl, zixc 19 rfl rfl, by decide⟩
set_option maxRecDepth 100000 in
theorem zmt_ok_196 : zmtP (5, 114, 0, m_M_slept) := ⟨zm_M_slept, zixe 12 rfl rfl, zixe 13 rfl rfl, zixe 14 rfl rfl, by decide⟩
set_option maxRecDepth 100000 in
theorem zmt_ok_197 : zmtP (5, 115, 0, m_X_busiest) := ⟨zm_X_busiest, zixc 28 rfl rfl, zixc 29 rfl rfl, zixc 30 rfl rfl, by decide⟩
set_option maxRecDepth 100000 in
theorem zmt_ok_198 : zmtP (5, 118, 0, m_M_busiest) := ⟨zm_M_busiest, zixe 23 rfl rfl, zixe 24 rfl rfl, zixe 25 rfl rfl, by decide⟩
set_option maxRecDepth 100000 in
theorem zmt_ok_199 : zmtP (5, 119, 0, m_X_twos) := ⟨zm_X_twos, zixc 32 rfl rfl, zixc 33 rfl rfl, zixc 34 rfl rfl, by decide⟩
set_option maxRecDepth 100000 in
theorem zmt_ok_200 : zmtP (5, 122, 0, m_M_twos) := ⟨zm_M_twos, zixe 27 rfl rfl, zixe 28 rfl rfl, zixe 29 rfl rfl, by decide⟩
set_option maxRecDepth 100000 in
theorem zmt_ok_201 : zmtP (5, 123, 0, m_X_nearest) := ⟨zm_X_nearest, zixc 36 rfl rfl, zixc 37 rfl rfl, zixc 38 rfl rfl, by decide⟩
set_option maxRecDepth 100000 in
theorem zmt_ok_202 : zmtP (5, 126, 0, m_M_nearest) := ⟨zm_M_nearest, zixe 31 rfl rfl, zixe 32 rfl rfl, zixe 33 rfl rfl, by decide⟩
set_option maxRecDepth 100000 in
theorem zmt_ok_203 : zmtP (5, 127, 0, m_X_lines) := ⟨zm_X_lines, zixc 53 rfl rfl, zixc 54 rfl rfl, zixc 55 rfl rfl, by decide⟩
set_option maxRecDepth 100000 in
theorem zmt_ok_204 : zmtP (5, 130, 0, m_M_lines) := ⟨zm_M_lines, zixe 38 rfl rfl, zixe 39 rfl rfl, zixe 40 rfl rfl, by decide⟩
set_option maxRecDepth 100000 in
theorem zmt_ok_205 : zmtP (5, 131, 0, m_X_hidden) := ⟨zm_X_hidden, zixc 59 rfl rfl, zixc 60 rfl rfl, zixc 61 rfl rfl, by decide⟩
set_option maxRecDepth 100000 in
theorem zmt_ok_206 : zmtP (5, 134, 0, m_M_hidden) := ⟨zm_M_hidden, zixe 42 rfl rfl, zixe 43 rfl rfl, zixe 44 rfl rfl, by decide⟩
set_option maxRecDepth 100000 in
theorem zmt_ok_207 : zmtP (5, 135, 0, m_X_longest) := ⟨zm_X_longest, zixc 64 rfl rfl, zixc 65 rfl rfl, zixc 66 rfl rfl, by decide⟩
set_option maxRecDepth 100000 in
theorem zmt_ok_208 : zmtP (5, 138, 0, m_M_longest) := ⟨zm_M_longest, zixe 46 rfl rfl, zixe 47 rfl rfl, zixe 48 rfl rfl, by decide⟩
set_option maxRecDepth 100000 in
theorem zmt_ok_209 : zmtP (5, 139, 0, m_X_walks) := ⟨zm_X_walks, zixc 68 rfl rfl, zixc 69 rfl rfl, zixc 70 rfl rfl, by decide⟩
set_option maxRecDepth 100000 in
theorem zmt_ok_210 : zmtP (5, 142, 0, m_M_walks) := ⟨zm_M_walks, zixe 50 rfl rfl, zixe 51 rfl rfl, zixe 52 rfl rfl, by decide⟩
set_option maxRecDepth 100000 in
theorem zmt_ok_211 : zmtP (5, 143, 0, m_X_meets) := ⟨zm_X_meets, zixc 72 rfl rfl, zixc 73 rfl rfl, zixc 74 rfl rfl, by decide⟩
set_option maxRecDepth 100000 in
theorem zmt_ok_212 : zmtP (5, 146, 0, m_M_meets) := ⟨zm_M_meets, zixe 54 rfl rfl, zixe 55 rfl rfl, zixe 56 rfl rfl, by decide⟩
set_option maxRecDepth 100000 in
theorem zmt_ok_213 : zmtP (5, 147, 0, m_X_leave) := ⟨zm_X_leave, zixc 76 rfl rfl, zixc 77 rfl rfl, zixc 78 rfl rfl, by decide⟩
set_option maxRecDepth 100000 in
theorem zmt_ok_214 : zmtP (5, 150, 0, m_M_leave) := ⟨zm_M_leave, zixe 58 rfl rfl, zixe 59 rfl rfl, zixe 60 rfl rfl, by decide⟩
set_option maxRecDepth 100000 in
theorem zmt_ok_215 : zmtP (5, 151, 0, m_X_most) := ⟨zm_X_most, zixc 80 rfl rfl, zixc 81 rfl rfl, zixc 82 rfl rfl, by decide⟩
set_option maxRecDepth 100000 in
theorem zmt_ok_216 : zmtP (5, 154, 0, m_M_most) := ⟨zm_M_most, zixe 62 rfl rfl, zixe 63 rfl rfl, zixe 64 rfl rfl, by decide⟩
set_option maxRecDepth 100000 in
theorem zmt_ok_217 : zmtP (5, 155, 0, m_X_quiet) := ⟨zm_X_quiet, zixc 84 rfl rfl, zixc 85 rfl rfl, zixc 86 rfl rfl, by decide⟩
set_option maxRecDepth 100000 in
theorem zmt_ok_218 : zmtP (5, 158, 0, m_M_quiet) := ⟨zm_M_quiet, zixe 66 rfl rfl, zixe 67 rfl rfl, zixe 68 rfl rfl, by decide⟩
set_option maxRecDepth 100000 in
theorem zmt_ok_219 : zmtP (5, 159, 0, m_X_row) := ⟨zm_X_row, zixc 88 rfl rfl, zixc 89 rfl rfl, zixc 90 rfl rfl, by decide⟩
set_option maxRecDepth 100000 in
theorem zmt_ok_220 : zmtP (5, 162, 0, m_M_row) := ⟨zm_M_row, zixe 70 rfl rfl, zixe 71 rfl rfl, zixe 72 rfl rfl, by decide⟩
set_option maxRecDepth 100000 in
theorem zmt_ok_221 : zmtP (5, 163, 0, m_X_judge) := ⟨zm_X_judge, zixc 92 rfl rfl, zixc 93 rfl rfl, zixc 94 rfl rfl, by decide⟩
set_option maxRecDepth 100000 in
theorem zmt_ok_222 : zmtP (5, 166, 0, m_M_judge) := ⟨zm_M_judge, zixe 74 rfl rfl, zixe 75 rfl rfl, zixe 76 rfl rfl, by decide⟩
set_option maxRecDepth 100000 in
theorem zmt_ok_223 : zmtP (5, 167, 0, m_X_clear) := ⟨zm_X_clear, zixc 96 rfl rfl, zixc 97 rfl rfl, zixc 98 rfl rfl, by decide⟩
set_option maxRecDepth 100000 in
theorem zmt_ok_224 : zmtP (5, 170, 0, m_M_clear) := ⟨zm_M_clear, zixe 78 rfl rfl, zixe 79 rfl rfl, zixe 80 rfl rfl, by decide⟩
set_option maxRecDepth 100000 in
theorem zmt_ok_225 : zmtP (5, 171, 0, m_X_lots) := ⟨zm_X_lots, zixc 100 rfl rfl, zixc 101 rfl rfl, zixc 102 rfl rfl, by decide⟩
set_option maxRecDepth 100000 in
theorem zmt_ok_226 : zmtP (5, 174, 0, m_M_lots) := ⟨zm_M_lots, zixe 82 rfl rfl, zixe 83 rfl rfl, zixe 84 rfl rfl, by decide⟩
set_option maxRecDepth 100000 in
theorem zmt_ok_227 : zmtP (5, 175, 0, m_X_image) := ⟨zm_X_image, zixc 117 rfl rfl, zixc 118 rfl rfl, zixc 119 rfl rfl, by decide⟩
set_option maxRecDepth 100000 in
theorem zmt_ok_228 : zmtP (5, 178, 0, m_M_image) := ⟨zm_M_image, zixd 110 rfl rfl, zixd 111 rfl rfl, zixd 112 rfl rfl, by decide⟩
set_option maxRecDepth 100000 in
theorem zmt_ok_229 : zmtP (5, 179, 0, m_X_restore) := ⟨zm_X_restore, zixc 121 rfl rfl, zixc 122 rfl rfl, zixc 123 rfl rfl, by decide⟩
set_option maxRecDepth 100000 in
theorem zmt_ok_230 : zmtP (5, 182, 0, m_M_restore) := ⟨zm_M_restore, zixd 114 rfl rfl, zixd 115 rfl rfl, zixd 116 rfl rfl, by decide⟩
set_option maxRecDepth 100000 in
theorem zmt_ok_231 : zmtP (5, 183, 0, m_X_count) := ⟨zm_X_count, zixc 125 rfl rfl, zixc 126 rfl rfl, zixc 127 rfl rfl, by decide⟩
set_option maxRecDepth 100000 in
theorem zmt_ok_232 : zmtP (5, 186, 0, m_M_count) := ⟨zm_M_count, zixe 93 rfl rfl, zixe 94 rfl rfl, zixe 95 rfl rfl, by decide⟩
set_option maxRecDepth 100000 in
theorem zmt_ok_c0 : ∀ q ∈ [(0, 40, 3, m_X_at), (0, 44, 3, m_X_put), (0, 48, 3, m_X_bitOf), (0, 52, 3, m_X_reach), (0, 56, 3, m_X_depth), (0, 59, 0, m_H_whoIsAt), (0, 62, 3, m_X_rowOf), (0, 70, 3, m_X_columnOf), (0, 73, 3, m_X_cellBeside), (0, 76, 0, m_H_isFree), (0, 80, 0, m_H_reachOf), (0, 83, 0, m_H_nextTo), (0, 87, 3, m_X_turned), (0, 90, 0, m_H_depthOf), (0, 93, 0, m_H_ahead), (0, 96, 0, m_H_inLens), (0, 99, 0, m_H_nightWithout), (0, 106, 0, m_H_stirs), (0, 110, 0, m_H_turnsBy), (0, 113, 0, m_H_stepsTo)], zmtP q := List.forall_mem_cons.mpr ⟨zmt_ok_0, List.forall_mem_cons.mpr ⟨zmt_ok_1, List.forall_mem_cons.mpr ⟨zmt_ok_2, List.forall_mem_cons.mpr ⟨zmt_ok_3, List.forall_mem_cons.mpr ⟨zmt_ok_4, List.forall_mem_cons.mpr ⟨zmt_ok_5, List.forall_mem_cons.mpr ⟨zmt_ok_6, List.forall_mem_cons.mpr ⟨zmt_ok_7, List.forall_mem_cons.mpr ⟨zmt_ok_8, List.forall_mem_cons.mpr ⟨zmt_ok_9, List.forall_mem_cons.mpr ⟨zmt_ok_10, List.forall_mem_cons.mpr ⟨zmt_ok_11, List.forall_mem_cons.mpr ⟨zmt_ok_12, List.forall_mem_cons.mpr ⟨zmt_ok_13, List.forall_mem_cons.mpr ⟨zmt_ok_14, List.forall_mem_cons.mpr ⟨zmt_ok_15, List.forall_mem_cons.mpr ⟨zmt_ok_16, List.forall_mem_cons.mpr ⟨zmt_ok_17, List.forall_mem_cons.mpr ⟨zmt_ok_18, List.forall_mem_cons.mpr ⟨zmt_ok_19, fun _ h => absurd h List.not_mem_nil⟩⟩⟩⟩⟩⟩⟩⟩⟩⟩⟩⟩⟩⟩⟩⟩⟩⟩⟩⟩
set_option maxRecDepth 100000 in
theorem zmt_ok_c1 : ∀ q ∈ [(1, 24, 5, m_H_init), (1, 25, 0, m_P_placeAt), (1, 29, 1, m_H_become), (2, 19, 3, m_X_put), (2, 23, 3, m_X_at), (2, 27, 2, m_T_digitsBehind), (2, 31, 0, m_T_digit), (2, 34, 0, m_T_number), (2, 37, 2, m_T_joins), (2, 41, 2, m_T_facesSo), (2, 45, 2, m_T_changesCell), (2, 48, 1, m_H_hasRoomFor), (2, 54, 1, m_H_pass), (2, 58, 3, m_X_isKind), (2, 61, 3, m_X_isCell), (2, 64, 3, m_X_isWay), (2, 68, 1, m_H_isFree), (2, 71, 1, m_H_join), (2, 75, 1, m_H_has), (2, 78, 1, m_H_face)], zmtP q := List.forall_mem_cons.mpr ⟨zmt_ok_20, List.forall_mem_cons.mpr ⟨zmt_ok_21, List.forall_mem_cons.mpr ⟨zmt_ok_22, List.forall_mem_cons.mpr ⟨zmt_ok_23, List.forall_mem_cons.mpr ⟨zmt_ok_24, List.forall_mem_cons.mpr ⟨zmt_ok_25, List.forall_mem_cons.mpr ⟨zmt_ok_26, List.forall_mem_cons.mpr ⟨zmt_ok_27, List.forall_mem_cons.mpr ⟨zmt_ok_28, List.forall_mem_cons.mpr ⟨zmt_ok_29, List.forall_mem_cons.mpr ⟨zmt_ok_30, List.forall_mem_cons.mpr ⟨zmt_ok_31, List.forall_mem_cons.mpr ⟨zmt_ok_32, List.forall_mem_cons.mpr ⟨zmt_ok_33, List.forall_mem_cons.mpr ⟨zmt_ok_34, List.forall_mem_cons.mpr ⟨zmt_ok_35, List.forall_mem_cons.mpr ⟨zmt_ok_36, List.forall_mem_cons.mpr ⟨zmt_ok_37, List.forall_mem_cons.mpr ⟨zmt_ok_38, List.forall_mem_cons.mpr ⟨zmt_ok_39, fun _ h => absurd h List.not_mem_nil⟩⟩⟩⟩⟩⟩⟩⟩⟩⟩⟩⟩⟩⟩⟩⟩⟩⟩⟩⟩
set_option maxRecDepth 100000 in
theorem zmt_ok_c2 : ∀ q ∈ [(2, 82, 1, m_H_place), (3, 9, 5, m_H_init), (3, 32, 5, m_P_init), (3, 39, 5, m_T_init), (3, 55, 0, m_X_refuse), (3, 62, 1, m_T_append), (3, 65, 1, m_T_wrongPlace), (3, 69, 1, m_H_become), (3, 73, 1, m_T_beginsStatement), (3, 77, 1, m_T_comesTo), (3, 81, 1, m_T_forget), (3, 84, 1, m_P_forget), (3, 85, 1, m_H_has), (3, 88, 1, m_H_kindOf), (3, 91, 1, m_H_figureOf), (3, 94, 1, m_H_cellOf), (3, 97, 1, m_H_facesOf), (3, 100, 1, m_H_startsOf), (3, 103, 1, m_H_reachOf), (3, 106, 1, m_H_depthOf)], zmtP q := List.forall_mem_cons.mpr ⟨zmt_ok_40, List.forall_mem_cons.mpr ⟨zmt_ok_41, List.forall_mem_cons.mpr ⟨zmt_ok_42, List.forall_mem_cons.mpr ⟨zmt_ok_43, List.forall_mem_cons.mpr ⟨zmt_ok_44, List.forall_mem_cons.mpr ⟨zmt_ok_45, List.forall_mem_cons.mpr ⟨zmt_ok_46, List.forall_mem_cons.mpr ⟨zmt_ok_47, List.forall_mem_cons.mpr ⟨zmt_ok_48, List.forall_mem_cons.mpr ⟨zmt_ok_49, List.forall_mem_cons.mpr ⟨zmt_ok_50, List.forall_mem_cons.mpr ⟨zmt_ok_51, List.forall_mem_cons.mpr ⟨zmt_ok_52, List.forall_mem_cons.mpr ⟨zmt_ok_53, List.forall_mem_cons.mpr ⟨zmt_ok_54, List.forall_mem_cons.mpr ⟨zmt_ok_55, List.forall_mem_cons.mpr ⟨zmt_ok_56, List.forall_mem_cons.mpr ⟨zmt_ok_57, List.forall_mem_cons.mpr ⟨zmt_ok_58, List.forall_mem_cons.mpr ⟨zmt_ok_59, fun _ h => absurd h List.not_mem_nil⟩⟩⟩⟩⟩⟩⟩⟩⟩⟩⟩⟩⟩⟩⟩⟩⟩⟩⟩⟩
set_option maxRecDepth 100000 in
theorem zmt_ok_c3 : ∀ q ∈ [(3, 109, 2, m_X_isKind), (3, 113, 2, m_X_isCell), (3, 116, 2, m_X_isWay), (3, 119, 1, m_H_isFree), (3, 122, 1, m_H_join), (3, 126, 1, m_P_keep), (3, 129, 1, m_H_face), (3, 133, 1, m_H_place), (3, 136, 1, m_H_hasRoomFor), (3, 139, 1, m_H_pass), (3, 143, 1, m_H_startsTogether), (3, 147, 1, m_P_giveBack), (3, 151, 0, m_X_wrongNights), (3, 155, 0, m_X_lookAhead), (3, 158, 1, m_H_ahead), (3, 161, 1, m_H_inLens), (3, 164, 1, m_H_watchers), (3, 167, 0, m_X_wrongWhat), (3, 171, 1, m_H_nightWithout), (3, 177, 2, m_X_bitOf)], zmtP q := List.forall_mem_cons.mpr ⟨zmt_ok_60, List.forall_mem_cons.mpr ⟨zmt_ok_61, List.forall_mem_cons.mpr ⟨zmt_ok_62, List.forall_mem_cons.mpr ⟨zmt_ok_63, List.forall_mem_cons.mpr ⟨zmt_ok_64, List.forall_mem_cons.mpr ⟨zmt_ok_65, List.forall_mem_cons.mpr ⟨zmt_ok_66, List.forall_mem_cons.mpr ⟨zmt_ok_67, List.forall_mem_cons.mpr ⟨zmt_ok_68, List.forall_mem_cons.mpr ⟨zmt_ok_69, List.forall_mem_cons.mpr ⟨zmt_ok_70, List.forall_mem_cons.mpr ⟨zmt_ok_71, List.forall_mem_cons.mpr ⟨zmt_ok_72, List.forall_mem_cons.mpr ⟨zmt_ok_73, List.forall_mem_cons.mpr ⟨zmt_ok_74, List.forall_mem_cons.mpr ⟨zmt_ok_75, List.forall_mem_cons.mpr ⟨zmt_ok_76, List.forall_mem_cons.mpr ⟨zmt_ok_77, List.forall_mem_cons.mpr ⟨zmt_ok_78, List.forall_mem_cons.mpr ⟨zmt_ok_79, fun _ h => absurd h List.not_mem_nil⟩⟩⟩⟩⟩⟩⟩⟩⟩⟩⟩⟩⟩⟩⟩⟩⟩⟩⟩⟩
set_option maxRecDepth 100000 in
theorem zmt_ok_c4 : ∀ q ∈ [(3, 180, 1, m_H_everybody), (3, 183, 1, m_H_chainOf), (3, 186, 1, m_H_seenBy), (3, 189, 1, m_H_seesAllWays), (3, 192, 1, m_H_facesToSeeUnseen), (3, 195, 1, m_H_beOfKind), (3, 198, 1, m_H_beOfFigure), (3, 201, 0, m_X_turnsAsTold), (3, 204, 1, m_H_cellOfStep), (3, 207, 2, m_J_bitCount), (3, 212, 0, m_X_areTwo), (3, 216, 0, m_X_stepsSeenByFaces), (3, 219, 2, m_X_neitherHasBetter), (3, 225, 2, m_X_waysToFace), (3, 229, 2, m_X_commonDivisor), (3, 233, 1, m_H_cellsApart), (3, 236, 2, m_X_rowOf), (3, 239, 2, m_X_columnOf), (3, 242, 1, m_H_nextTo), (3, 248, 2, m_X_put)], zmtP q := List.forall_mem_cons.mpr ⟨zmt_ok_80, List.forall_mem_cons.mpr ⟨zmt_ok_81, List.forall_mem_cons.mpr ⟨zmt_ok_82, List.forall_mem_cons.mpr ⟨zmt_ok_83, List.forall_mem_cons.mpr ⟨zmt_ok_84, List.forall_mem_cons.mpr ⟨zmt_ok_85, List.forall_mem_cons.mpr ⟨zmt_ok_86, List.forall_mem_cons.mpr ⟨zmt_ok_87, List.forall_mem_cons.mpr ⟨zmt_ok_88, List.forall_mem_cons.mpr ⟨zmt_ok_89, List.forall_mem_cons.mpr ⟨zmt_ok_90, List.forall_mem_cons.mpr ⟨zmt_ok_91, List.forall_mem_cons.mpr ⟨zmt_ok_92, List.forall_mem_cons.mpr ⟨zmt_ok_93, List.forall_mem_cons.mpr ⟨zmt_ok_94, List.forall_mem_cons.mpr ⟨zmt_ok_95, List.forall_mem_cons.mpr ⟨zmt_ok_96, List.forall_mem_cons.mpr ⟨zmt_ok_97, List.forall_mem_cons.mpr ⟨zmt_ok_98, List.forall_mem_cons.mpr ⟨zmt_ok_99, fun _ h => absurd h List.not_mem_nil⟩⟩⟩⟩⟩⟩⟩⟩⟩⟩⟩⟩⟩⟩⟩⟩⟩⟩⟩⟩
set_option maxRecDepth 100000 in
theorem zmt_ok_c5 : ∀ q ∈ [(3, 252, 2, m_X_at), (3, 256, 2, m_X_nextSeed), (3, 259, 2, m_X_drawOf), (3, 262, 1, m_H_howManySee), (3, 269, 2, m_X_pairBit), (4, 68, 2, m_M_in), (4, 72, 0, m_M_isOne), (4, 80, 2, m_M_straight), (4, 84, 0, m_M_oneIn), (4, 88, 0, m_M_reachOf), (4, 91, 0, m_M_nextFrom), (4, 94, 0, m_M_depthOf), (4, 97, 0, m_M_aheadOf), (4, 103, 0, m_M_stepTo), (4, 113, 0, m_M_lensOf), (4, 116, 0, m_M_goesBy), (4, 119, 0, m_M_nightBy), (4, 123, 0, m_M_refuse), (4, 136, 0, m_M_here), (4, 144, 0, m_M_readDigits)], zmtP q := List.forall_mem_cons.mpr ⟨zmt_ok_100, List.forall_mem_cons.mpr ⟨zmt_ok_101, List.forall_mem_cons.mpr ⟨zmt_ok_102, List.forall_mem_cons.mpr ⟨zmt_ok_103, List.forall_mem_cons.mpr ⟨zmt_ok_104, List.forall_mem_cons.mpr ⟨zmt_ok_105, List.forall_mem_cons.mpr ⟨zmt_ok_106, List.forall_mem_cons.mpr ⟨zmt_ok_107, List.forall_mem_cons.mpr ⟨zmt_ok_108, List.forall_mem_cons.mpr ⟨zmt_ok_109, List.forall_mem_cons.mpr ⟨zmt_ok_110, List.forall_mem_cons.mpr ⟨zmt_ok_111, List.forall_mem_cons.mpr ⟨zmt_ok_112, List.forall_mem_cons.mpr ⟨zmt_ok_113, List.forall_mem_cons.mpr ⟨zmt_ok_114, List.forall_mem_cons.mpr ⟨zmt_ok_115, List.forall_mem_cons.mpr ⟨zmt_ok_116, List.forall_mem_cons.mpr ⟨zmt_ok_117, List.forall_mem_cons.mpr ⟨zmt_ok_118, List.forall_mem_cons.mpr ⟨zmt_ok_119, fun _ h => absurd h List.not_mem_nil⟩⟩⟩⟩⟩⟩⟩⟩⟩⟩⟩⟩⟩⟩⟩⟩⟩⟩⟩⟩
set_option maxRecDepth 100000 in
theorem zmt_ok_c6 : ∀ q ∈ [(4, 150, 2, m_M_isLetter), (4, 153, 0, m_M_readNumbers), (4, 156, 0, m_M_oneComes), (4, 162, 0, m_M_goNights), (4, 165, 0, m_M_readStatement), (4, 168, 0, m_M_think), (4, 171, 0, m_M_comesTold), (4, 174, 0, m_M_again), (4, 189, 0, m_M_carry), (4, 192, 0, m_M_carryAll), (4, 201, 2, m_M_wrongNumber), (4, 204, 2, m_M_isCell), (4, 209, 0, m_M_keepTurn), (4, 212, 0, m_M_allOfStarts), (4, 215, 2, m_M_wrongBit), (4, 218, 0, m_M_watchersOf), (4, 221, 2, m_M_hasBit), (4, 231, 2, m_M_onesOf), (4, 234, 0, m_M_chainFrom), (4, 240, 0, m_M_isRow)], zmtP q := List.forall_mem_cons.mpr ⟨zmt_ok_120, List.forall_mem_cons.mpr ⟨zmt_ok_121, List.forall_mem_cons.mpr ⟨zmt_ok_122, List.forall_mem_cons.mpr ⟨zmt_ok_123, List.forall_mem_cons.mpr ⟨zmt_ok_124, List.forall_mem_cons.mpr ⟨zmt_ok_125, List.forall_mem_cons.mpr ⟨zmt_ok_126, List.forall_mem_cons.mpr ⟨zmt_ok_127, List.forall_mem_cons.mpr ⟨zmt_ok_128, List.forall_mem_cons.mpr ⟨zmt_ok_129, List.forall_mem_cons.mpr ⟨zmt_ok_130, List.forall_mem_cons.mpr ⟨zmt_ok_131, List.forall_mem_cons.mpr ⟨zmt_ok_132, List.forall_mem_cons.mpr ⟨zmt_ok_133, List.forall_mem_cons.mpr ⟨zmt_ok_134, List.forall_mem_cons.mpr ⟨zmt_ok_135, List.forall_mem_cons.mpr ⟨zmt_ok_136, List.forall_mem_cons.mpr ⟨zmt_ok_137, List.forall_mem_cons.mpr ⟨zmt_ok_138, List.forall_mem_cons.mpr ⟨zmt_ok_139, fun _ h => absurd h List.not_mem_nil⟩⟩⟩⟩⟩⟩⟩⟩⟩⟩⟩⟩⟩⟩⟩⟩⟩⟩⟩⟩
set_option maxRecDepth 100000 in
theorem zmt_ok_c7 : ∀ q ∈ [(4, 243, 0, m_M_stepFrom), (4, 247, 0, m_M_areTwo), (4, 250, 0, m_M_areResting), (4, 253, 2, m_M_divisor), (4, 259, 2, m_M_partOf), (4, 263, 2, m_M_apart), (4, 272, 0, m_M_drawBelow), (5, 9, 4, m_X_init), (5, 12, 4, m_M_init), (5, 13, 0, m_X_feed), (5, 17, 0, m_M_feed), (5, 18, 0, m_X_hill), (5, 22, 0, m_M_hill), (5, 23, 0, m_X_personOf), (5, 27, 0, m_M_personOf), (5, 28, 0, m_X_person), (5, 32, 0, m_M_person), (5, 33, 0, m_X_turns), (5, 36, 0, m_M_turns), (5, 37, 0, m_X_stands)], zmtP q := List.forall_mem_cons.mpr ⟨zmt_ok_140, List.forall_mem_cons.mpr ⟨zmt_ok_141, List.forall_mem_cons.mpr ⟨zmt_ok_142, List.forall_mem_cons.mpr ⟨zmt_ok_143, List.forall_mem_cons.mpr ⟨zmt_ok_144, List.forall_mem_cons.mpr ⟨zmt_ok_145, List.forall_mem_cons.mpr ⟨zmt_ok_146, List.forall_mem_cons.mpr ⟨zmt_ok_147, List.forall_mem_cons.mpr ⟨zmt_ok_148, List.forall_mem_cons.mpr ⟨zmt_ok_149, List.forall_mem_cons.mpr ⟨zmt_ok_150, List.forall_mem_cons.mpr ⟨zmt_ok_151, List.forall_mem_cons.mpr ⟨zmt_ok_152, List.forall_mem_cons.mpr ⟨zmt_ok_153, List.forall_mem_cons.mpr ⟨zmt_ok_154, List.forall_mem_cons.mpr ⟨zmt_ok_155, List.forall_mem_cons.mpr ⟨zmt_ok_156, List.forall_mem_cons.mpr ⟨zmt_ok_157, List.forall_mem_cons.mpr ⟨zmt_ok_158, List.forall_mem_cons.mpr ⟨zmt_ok_159, fun _ h => absurd h List.not_mem_nil⟩⟩⟩⟩⟩⟩⟩⟩⟩⟩⟩⟩⟩⟩⟩⟩⟩⟩⟩⟩
set_option maxRecDepth 100000 in
theorem zmt_ok_c8 : ∀ q ∈ [(5, 40, 0, m_M_stands), (5, 41, 0, m_X_nights), (5, 44, 0, m_M_nights), (5, 45, 0, m_X_back), (5, 48, 0, m_M_back), (5, 49, 0, m_X_behind), (5, 53, 0, m_M_behind), (5, 54, 0, m_X_allStarts), (5, 57, 0, m_M_allStarts), (5, 58, 0, m_X_first), (5, 61, 0, m_M_first), (5, 62, 0, m_X_still), (5, 65, 0, m_M_still), (5, 66, 0, m_X_unseen), (5, 69, 0, m_M_unseen), (5, 70, 0, m_X_chain), (5, 73, 0, m_M_chain), (5, 74, 0, m_X_deepest), (5, 77, 0, m_M_deepest), (5, 78, 0, m_X_knows)], zmtP q := List.forall_mem_cons.mpr ⟨zmt_ok_160, List.forall_mem_cons.mpr ⟨zmt_ok_161, List.forall_mem_cons.mpr ⟨zmt_ok_162, List.forall_mem_cons.mpr ⟨zmt_ok_163, List.forall_mem_cons.mpr ⟨zmt_ok_164, List.forall_mem_cons.mpr ⟨zmt_ok_165, List.forall_mem_cons.mpr ⟨zmt_ok_166, List.forall_mem_cons.mpr ⟨zmt_ok_167, List.forall_mem_cons.mpr ⟨zmt_ok_168, List.forall_mem_cons.mpr ⟨zmt_ok_169, List.forall_mem_cons.mpr ⟨zmt_ok_170, List.forall_mem_cons.mpr ⟨zmt_ok_171, List.forall_mem_cons.mpr ⟨zmt_ok_172, List.forall_mem_cons.mpr ⟨zmt_ok_173, List.forall_mem_cons.mpr ⟨zmt_ok_174, List.forall_mem_cons.mpr ⟨zmt_ok_175, List.forall_mem_cons.mpr ⟨zmt_ok_176, List.forall_mem_cons.mpr ⟨zmt_ok_177, List.forall_mem_cons.mpr ⟨zmt_ok_178, List.forall_mem_cons.mpr ⟨zmt_ok_179, fun _ h => absurd h List.not_mem_nil⟩⟩⟩⟩⟩⟩⟩⟩⟩⟩⟩⟩⟩⟩⟩⟩⟩⟩⟩⟩
set_option maxRecDepth 100000 in
theorem zmt_ok_c9 : ∀ q ∈ [(5, 81, 0, m_M_knows), (5, 82, 0, m_X_safe), (5, 85, 0, m_M_safe), (5, 86, 0, m_X_alone), (5, 89, 0, m_M_alone), (5, 90, 0, m_X_turnAll), (5, 93, 0, m_M_turnAll), (5, 94, 0, m_X_post), (5, 97, 0, m_M_post), (5, 98, 0, m_X_which), (5, 101, 0, m_M_which), (5, 102, 0, m_X_bestStep), (5, 105, 0, m_M_bestStep), (5, 106, 0, m_X_two), (5, 109, 0, m_M_two), (5, 110, 0, m_X_slept), (5, 114, 0, m_M_slept), (5, 115, 0, m_X_busiest), (5, 118, 0, m_M_busiest), (5, 119, 0, m_X_twos)], zmtP q := List.forall_mem_cons.mpr ⟨zmt_ok_180, List.forall_mem_cons.mpr ⟨zmt_ok_181, List.forall_mem_cons.mpr ⟨zmt_ok_182, List.forall_mem_cons.mpr ⟨zmt_ok_183, List.forall_mem_cons.mpr ⟨zmt_ok_184, List.forall_mem_cons.mpr ⟨zmt_ok_185, List.forall_mem_cons.mpr ⟨zmt_ok_186, List.forall_mem_cons.mpr ⟨zmt_ok_187, List.forall_mem_cons.mpr ⟨zmt_ok_188, List.forall_mem_cons.mpr ⟨zmt_ok_189, List.forall_mem_cons.mpr ⟨zmt_ok_190, List.forall_mem_cons.mpr ⟨zmt_ok_191, List.forall_mem_cons.mpr ⟨zmt_ok_192, List.forall_mem_cons.mpr ⟨zmt_ok_193, List.forall_mem_cons.mpr ⟨zmt_ok_194, List.forall_mem_cons.mpr ⟨zmt_ok_195, List.forall_mem_cons.mpr ⟨zmt_ok_196, List.forall_mem_cons.mpr ⟨zmt_ok_197, List.forall_mem_cons.mpr ⟨zmt_ok_198, List.forall_mem_cons.mpr ⟨zmt_ok_199, fun _ h => absurd h List.not_mem_nil⟩⟩⟩⟩⟩⟩⟩⟩⟩⟩⟩⟩⟩⟩⟩⟩⟩⟩⟩⟩
set_option maxRecDepth 100000 in
theorem zmt_ok_c10 : ∀ q ∈ [(5, 122, 0, m_M_twos), (5, 123, 0, m_X_nearest), (5, 126, 0, m_M_nearest), (5, 127, 0, m_X_lines), (5, 130, 0, m_M_lines), (5, 131, 0, m_X_hidden), (5, 134, 0, m_M_hidden), (5, 135, 0, m_X_longest), (5, 138, 0, m_M_longest), (5, 139, 0, m_X_walks), (5, 142, 0, m_M_walks), (5, 143, 0, m_X_meets), (5, 146, 0, m_M_meets), (5, 147, 0, m_X_leave), (5, 150, 0, m_M_leave), (5, 151, 0, m_X_most), (5, 154, 0, m_M_most), (5, 155, 0, m_X_quiet), (5, 158, 0, m_M_quiet), (5, 159, 0, m_X_row)], zmtP q := List.forall_mem_cons.mpr ⟨zmt_ok_200, List.forall_mem_cons.mpr ⟨zmt_ok_201, List.forall_mem_cons.mpr ⟨zmt_ok_202, List.forall_mem_cons.mpr ⟨zmt_ok_203, List.forall_mem_cons.mpr ⟨zmt_ok_204, List.forall_mem_cons.mpr ⟨zmt_ok_205, List.forall_mem_cons.mpr ⟨zmt_ok_206, List.forall_mem_cons.mpr ⟨zmt_ok_207, List.forall_mem_cons.mpr ⟨zmt_ok_208, List.forall_mem_cons.mpr ⟨zmt_ok_209, List.forall_mem_cons.mpr ⟨zmt_ok_210, List.forall_mem_cons.mpr ⟨zmt_ok_211, List.forall_mem_cons.mpr ⟨zmt_ok_212, List.forall_mem_cons.mpr ⟨zmt_ok_213, List.forall_mem_cons.mpr ⟨zmt_ok_214, List.forall_mem_cons.mpr ⟨zmt_ok_215, List.forall_mem_cons.mpr ⟨zmt_ok_216, List.forall_mem_cons.mpr ⟨zmt_ok_217, List.forall_mem_cons.mpr ⟨zmt_ok_218, List.forall_mem_cons.mpr ⟨zmt_ok_219, fun _ h => absurd h List.not_mem_nil⟩⟩⟩⟩⟩⟩⟩⟩⟩⟩⟩⟩⟩⟩⟩⟩⟩⟩⟩⟩
set_option maxRecDepth 100000 in
theorem zmt_ok_c11 : ∀ q ∈ [(5, 162, 0, m_M_row), (5, 163, 0, m_X_judge), (5, 166, 0, m_M_judge), (5, 167, 0, m_X_clear), (5, 170, 0, m_M_clear), (5, 171, 0, m_X_lots), (5, 174, 0, m_M_lots), (5, 175, 0, m_X_image), (5, 178, 0, m_M_image), (5, 179, 0, m_X_restore), (5, 182, 0, m_M_restore), (5, 183, 0, m_X_count), (5, 186, 0, m_M_count)], zmtP q := List.forall_mem_cons.mpr ⟨zmt_ok_220, List.forall_mem_cons.mpr ⟨zmt_ok_221, List.forall_mem_cons.mpr ⟨zmt_ok_222, List.forall_mem_cons.mpr ⟨zmt_ok_223, List.forall_mem_cons.mpr ⟨zmt_ok_224, List.forall_mem_cons.mpr ⟨zmt_ok_225, List.forall_mem_cons.mpr ⟨zmt_ok_226, List.forall_mem_cons.mpr ⟨zmt_ok_227, List.forall_mem_cons.mpr ⟨zmt_ok_228, List.forall_mem_cons.mpr ⟨zmt_ok_229, List.forall_mem_cons.mpr ⟨zmt_ok_230, List.forall_mem_cons.mpr ⟨zmt_ok_231, List.forall_mem_cons.mpr ⟨zmt_ok_232, fun _ h => absurd h List.not_mem_nil⟩⟩⟩⟩⟩⟩⟩⟩⟩⟩⟩⟩⟩
set_option maxRecDepth 100000 in
theorem zmt_ok : ∀ q ∈ zmtT, zmtP q := List.forall_mem_append.mpr ⟨zmt_ok_c0, List.forall_mem_append.mpr ⟨zmt_ok_c1, List.forall_mem_append.mpr ⟨zmt_ok_c2, List.forall_mem_append.mpr ⟨zmt_ok_c3, List.forall_mem_append.mpr ⟨zmt_ok_c4, List.forall_mem_append.mpr ⟨zmt_ok_c5, List.forall_mem_append.mpr ⟨zmt_ok_c6, List.forall_mem_append.mpr ⟨zmt_ok_c7, List.forall_mem_append.mpr ⟨zmt_ok_c8, List.forall_mem_append.mpr ⟨zmt_ok_c9, List.forall_mem_append.mpr ⟨zmt_ok_c10, zmt_ok_c11⟩⟩⟩⟩⟩⟩⟩⟩⟩⟩⟩
def zgw : List Jvm.Cond := zTs.filter zgd
theorem zgood {w : Jvm.Cond} (h : w ∈ zgw) : w ∈ zTs ∧ ((w.onTables && w.keeps) = true ∨ ∃ ty, w = .arrayClass ty) := by
  obtain ⟨h1, h2⟩ := List.mem_filter.mp h
  refine ⟨h1, ?_⟩
  unfold zgd at h2
  rcases Bool.or_eq_true_iff.mp h2 with h | h
  · exact Or.inl h
  · cases w with
    | arrayClass ty => exact Or.inr ⟨ty, rfl⟩
    | _ => cases h
