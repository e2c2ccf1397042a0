/-! the words that stay, the classes, the methods: by program (wip/whole/gen.py) -/
def gT : List Cond := lw_tbl.filter goodWord
theorem gGood : ∀ w ∈ gT, goodWord w = true := fun w h => (List.mem_filter.mp h).2
theorem gT_of {w : Cond} (h : w ∈ lw_tbl) (hg : goodWord w = true) : w ∈ gT := List.mem_filter.mpr ⟨h, hg⟩
theorem gT_in {w : Cond} (h : w ∈ gT) : w ∈ lw_tbl := (List.mem_filter.mp h).1
def gIn (w : Cond) : Bool := goodWord w && decide (w ∈ lw_tbl)
theorem gIn_spec {w : Cond} (h : gIn w = true) : w ∈ gT := by
  simp only [gIn, Bool.and_eq_true, decide_eq_true_eq] at h
  exact gT_of h.2 h.1
def gF0 : u_T := fun k => match k with
  | 0 => ("ExtentTree$Node", "number", "I", true)
  | 1 => ("ExtentTree$Node", "room", "I", true)
  | 2 => ("ExtentTree$Node", "taken", "Z", false)
  | 3 => ("ExtentTree$Node", "depth", "I", false)
  | 4 => ("ExtentTree$Node", "entries", "I", false)
  | _ => ("ExtentTree$Node", "words", "[I", true)
def gY0 : Nat → FieldType := fun k => match k with
  | 0 => .int
  | 1 => .int
  | 2 => .boolean
  | 3 => .int
  | 4 => .int
  | _ => .array .int
theorem gY0_ok : ∀ k, k < 6 → parseFieldDescriptor (gF0 k).2.2.1 = some (gY0 k) := by decide +kernel
theorem gN0_ok : ∀ a, a < 6 → ∀ b, b < 6 → a ≠ b → (gF0 a).2.1 ≠ (gF0 b).2.1 := by decide +kernel
theorem gU0_ok : ∀ w ∈ u_ws "ExtentTree$Node" gF0 6, w ∈ gT := by
  have h : (u_ws "ExtentTree$Node" gF0 6).all gIn = true := by decide +kernel
  exact fun w hw => gIn_spec (List.all_eq_true.mp h w hw)
def gF1 : u_T := fun k => match k with
  | 0 => ("ExtentTree$Pool", "left", "I", false)
  | _ => ("ExtentTree$Pool", "nodes", "[LExtentTree$Node;", true)
def gY1 : Nat → FieldType := fun k => match k with
  | 0 => .int
  | _ => .array (.object "ExtentTree$Node")
theorem gY1_ok : ∀ k, k < 2 → parseFieldDescriptor (gF1 k).2.2.1 = some (gY1 k) := by decide +kernel
theorem gN1_ok : ∀ a, a < 2 → ∀ b, b < 2 → a ≠ b → (gF1 a).2.1 ≠ (gF1 b).2.1 := by decide +kernel
theorem gU1_ok : ∀ w ∈ u_ws "ExtentTree$Pool" gF1 2, w ∈ gT := by
  have h : (u_ws "ExtentTree$Pool" gF1 2).all gIn = true := by decide +kernel
  exact fun w hw => gIn_spec (List.all_eq_true.mp h w hw)
def gF2 : u_T := fun k => match k with
  | 0 => ("ExtentTree$Tree", "root", "LExtentTree$Node;", true)
  | 1 => ("ExtentTree$Tree", "runs", "I", false)
  | 2 => ("ExtentTree$Tree", "blocks", "I", false)
  | 3 => ("ExtentTree$Tree", "mapped", "I", false)
  | 4 => ("ExtentTree$Tree", "mappedWritten", "I", false)
  | 5 => ("ExtentTree$Tree", "leafBlocks", "I", false)
  | 6 => ("ExtentTree$Tree", "pool", "LExtentTree$Pool;", true)
  | 7 => ("ExtentTree$Tree", "way", "[LExtentTree$Node;", true)
  | 8 => ("ExtentTree$Tree", "place", "[I", true)
  | 9 => ("ExtentTree$Tree", "leaf", "I", false)
  | _ => ("ExtentTree$Tree", "fresh", "[LExtentTree$Node;", true)
def gY2 : Nat → FieldType := fun k => match k with
  | 0 => .object "ExtentTree$Node"
  | 1 => .int
  | 2 => .int
  | 3 => .int
  | 4 => .int
  | 5 => .int
  | 6 => .object "ExtentTree$Pool"
  | 7 => .array (.object "ExtentTree$Node")
  | 8 => .array .int
  | 9 => .int
  | _ => .array (.object "ExtentTree$Node")
theorem gY2_ok : ∀ k, k < 11 → parseFieldDescriptor (gF2 k).2.2.1 = some (gY2 k) := by decide +kernel
theorem gN2_ok : ∀ a, a < 11 → ∀ b, b < 11 → a ≠ b → (gF2 a).2.1 ≠ (gF2 b).2.1 := by decide +kernel
theorem gU2_ok : ∀ w ∈ u_ws "ExtentTree$Tree" gF2 11, w ∈ gT := by
  have h : (u_ws "ExtentTree$Tree" gF2 11).all gIn = true := by decide +kernel
  exact fun w hw => gIn_spec (List.all_eq_true.mp h w hw)
def gF3 : u_T := fun k => match k with
  | 0 => ("ExtentTree", "pool", "LExtentTree$Pool;", true)
  | _ => ("ExtentTree", "trees", "[LExtentTree$Tree;", true)
def gY3 : Nat → FieldType := fun k => match k with
  | 0 => .object "ExtentTree$Pool"
  | _ => .array (.object "ExtentTree$Tree")
theorem gY3_ok : ∀ k, k < 2 → parseFieldDescriptor (gF3 k).2.2.1 = some (gY3 k) := by decide +kernel
theorem gN3_ok : ∀ a, a < 2 → ∀ b, b < 2 → a ≠ b → (gF3 a).2.1 ≠ (gF3 b).2.1 := by decide +kernel
theorem gU3_ok : ∀ w ∈ u_ws "ExtentTree" gF3 2, w ∈ gT := by
  have h : (u_ws "ExtentTree" gF3 2).all gIn = true := by decide +kernel
  exact fun w hw => gIn_spec (List.all_eq_true.mp h w hw)
def gF4 : u_T := fun k => match k with
  | 0 => ("ExtentTreeModel", "thrown", "I", false)
  | 1 => ("ExtentTreeModel", "most", "I", false)
  | 2 => ("ExtentTreeModel", "begins", "[I", false)
  | 3 => ("ExtentTreeModel", "starts", "[I", false)
  | 4 => ("ExtentTreeModel", "lengths", "[I", false)
  | 5 => ("ExtentTreeModel", "volumes", "[I", false)
  | 6 => ("ExtentTreeModel", "written", "[Z", false)
  | 7 => ("ExtentTreeModel", "depth", "[I", false)
  | 8 => ("ExtentTreeModel", "rootMany", "[I", false)
  | 9 => ("ExtentTreeModel", "nodes", "[I", false)
  | 10 => ("ExtentTreeModel", "entries", "[I", false)
  | 11 => ("ExtentTreeModel", "many", "[I", false)
  | 12 => ("ExtentTreeModel", "taken", "[Z", false)
  | 13 => ("ExtentTreeModel", "way", "[I", false)
  | 14 => ("ExtentTreeModel", "place", "[I", false)
  | _ => ("ExtentTreeModel", "fresh", "[I", false)
def gY4 : Nat → FieldType := fun k => match k with
  | 0 => .int
  | 1 => .int
  | 2 => .array .int
  | 3 => .array .int
  | 4 => .array .int
  | 5 => .array .int
  | 6 => .array .boolean
  | 7 => .array .int
  | 8 => .array .int
  | 9 => .array .int
  | 10 => .array .int
  | 11 => .array .int
  | 12 => .array .boolean
  | 13 => .array .int
  | 14 => .array .int
  | _ => .array .int
theorem gY4_ok : ∀ k, k < 16 → parseFieldDescriptor (gF4 k).2.2.1 = some (gY4 k) := by decide +kernel
theorem gN4_ok : ∀ a, a < 16 → ∀ b, b < 16 → a ≠ b → (gF4 a).2.1 ≠ (gF4 b).2.1 := by decide +kernel
theorem gU4_ok : ∀ w ∈ u_ws "ExtentTreeModel" gF4 16, w ∈ gT := by
  have h : (u_ws "ExtentTreeModel" gF4 16).all gIn = true := by decide +kernel
  exact fun w hw => gIn_spec (List.all_eq_true.mp h w hw)
def gCl : List vw_C := [("ExtentTree$Node", gF0, 6), ("ExtentTree$Pool", gF1, 2), ("ExtentTree$Tree", gF2, 11), ("ExtentTree", gF3, 2), ("ExtentTreeModel", gF4, 16)]
def gFt (k : Nat) : Nat → FieldType := match k with
  | 0 => gY0
  | 1 => gY1
  | 2 => gY2
  | 3 => gY3
  | _ => gY4
theorem gUws : ∀ (k : Nat) (q : vw_C), gCl[k]? = some q → ∀ w ∈ u_ws q.1 q.2.1 q.2.2, w ∈ gT := by
  intro k q h
  match k, h with
  | 0, h => cases h; exact gU0_ok
  | 1, h => cases h; exact gU1_ok
  | 2, h => cases h; exact gU2_ok
  | 3, h => cases h; exact gU3_ok
  | 4, h => cases h; exact gU4_ok
  | k + 5, h => simp [gCl] at h
theorem gFt_ok : ∀ (k : Nat) (q : vw_C), gCl[k]? = some q → ∀ i, i < q.2.2 → parseFieldDescriptor (q.2.1 i).2.2.1 = some (gFt k i) := by
  intro k q h
  match k, h with
  | 0, h => cases h; exact gY0_ok
  | 1, h => cases h; exact gY1_ok
  | 2, h => cases h; exact gY2_ok
  | 3, h => cases h; exact gY3_ok
  | 4, h => cases h; exact gY4_ok
  | k + 5, h => simp [gCl] at h
theorem gFn_ok : ∀ (k : Nat) (q : vw_C), gCl[k]? = some q → ∀ a, a < q.2.2 → ∀ b, b < q.2.2 → a ≠ b → (q.2.1 a).2.1 ≠ (q.2.1 b).2.1 := by
  intro k q h
  match k, h with
  | 0, h => cases h; exact gN0_ok
  | 1, h => cases h; exact gN1_ok
  | 2, h => cases h; exact gN2_ok
  | 3, h => cases h; exact gN3_ok
  | 4, h => cases h; exact gN4_ok
  | k + 5, h => simp [gCl] at h
theorem gFt_kind (k i : Nat) : gFt k i = .int ∨ gFt k i = .boolean ∨ gFt k i = .long ∨ (∃ C, gFt k i = .object C) ∨ ∃ t, gFt k i = .array t := by
  unfold gFt
  split
  · unfold gY0
    split <;> simp
  · unfold gY1
    split <;> simp
  · unfold gY2
    split <;> simp
  · unfold gY3
    split <;> simp
  · unfold gY4
    split <;> simp
def gTy : List FieldType := [.int, .long, .object "ExtentTree$Node", .object "ExtentTree$Tree", .boolean]
def gSt : List (String × Nat × String) := [("ExtentTree", 53, "no such file, file blocks, volume blocks or run"), ("ExtentTree", 63, "a file block is in a run already"), ("ExtentTree", 72, "too few free blocks, or too deep"), ("ExtentTree", 90, "no such file, file blocks, volume blocks or steps"), ("ExtentTree", 92, "no such file or file blocks"), ("ExtentTree", 97, "no such file, file blocks or steps"), ("ExtentTree", 102, "not all in one run that is not yet written"), ("ExtentTree", 111, "no such file or file block"), ("ExtentTree", 119, "no such file or number"), ("ExtentTree", 146, "no such file"), ("ExtentTree", 150, "no such byte of a root"), ("ExtentTree", 159, "no such byte of a block that is taken")]
def gAo : List String := ["ExtentTree$Node", "ExtentTree$Tree"]
def gNl : List (String × Nat × MethodName × String) := [("ExtentTree$Tree", 145, ⟨"ExtentTree", "longest", "(Z)I"⟩, "ExtentTree")]
def gCa : List (String × String) := [("java/lang/IllegalArgumentException", "java/lang/IllegalArgumentException"), ("java/lang/IllegalStateException", "java/lang/IllegalStateException"), ("java/lang/UnsupportedOperationException", "java/lang/UnsupportedOperationException"), ("java/lang/IndexOutOfBoundsException", "java/lang/IndexOutOfBoundsException")]
def gNc : List (String × String) := [("java/lang/IllegalArgumentException", "java/lang/IllegalStateException"), ("java/lang/IllegalArgumentException", "java/lang/UnsupportedOperationException"), ("java/lang/IllegalArgumentException", "java/lang/IndexOutOfBoundsException"), ("java/lang/IllegalStateException", "java/lang/IllegalArgumentException"), ("java/lang/IllegalStateException", "java/lang/UnsupportedOperationException"), ("java/lang/IllegalStateException", "java/lang/IndexOutOfBoundsException"), ("java/lang/UnsupportedOperationException", "java/lang/IllegalArgumentException"), ("java/lang/UnsupportedOperationException", "java/lang/IllegalStateException"), ("java/lang/UnsupportedOperationException", "java/lang/IndexOutOfBoundsException"), ("java/lang/IndexOutOfBoundsException", "java/lang/IllegalArgumentException"), ("java/lang/IndexOutOfBoundsException", "java/lang/IllegalStateException"), ("java/lang/IndexOutOfBoundsException", "java/lang/UnsupportedOperationException")]
def gDe : List MethodName := [⟨"java/lang/RuntimeException", "<init>", "(Ljava/lang/String;)V"⟩, ⟨"java/lang/Exception", "<init>", "(Ljava/lang/String;)V"⟩, ⟨"java/lang/Throwable", "<init>", "(Ljava/lang/String;)V"⟩]
def m_ET_init : gM := (⟨"ExtentTree", "<init>", "(I)V"⟩, prog_1_method_1_code, 3, (none : Option FieldType), 3, 65, [], [
  (0, .aload_n 0, 1, 0, 0, 0), (1, .invokespecial 3, 4, 1, 0, 0), (4, .aload_n 0, 5, 0, 0, 0), (5, .new 9, 8, 0, 1, 0), (8, .dup, 9, 0, 0, 0), (9, .iconst 5, 10, 5, 0, 0), (10, .bipush 84, 12, 84, 0, 0), (12, .iload_n 1, 13, 0, 1, 0),
  (13, .invokestatic 11, 16, 2, 0, 0), (16, .invokestatic 17, 19, 1, 0, 0), (19, .invokespecial 20, 22, 0, 79, 1), (22, .putfield 23, 25, 0, 3, 0), (25, .aload_n 0, 26, 0, 0, 0), (26, .iconst 4, 27, 4, 0, 0), (27, .anewarray 27, 30, 0, 3, 0), (30, .putfield 29, 33, 0, 3, 1),
  (33, .iconst 0, 34, 0, 0, 0), (34, .istore_n 2, 35, 0, 2, 0), (35, .iload_n 2, 36, 0, 2, 0), (36, .iconst 4, 37, 4, 0, 0), (37, .if_icmp .ge 26, 40, 0, 63, 0), (40, .aload_n 0, 41, 0, 0, 0), (41, .getfield 29, 44, 0, 3, 1), (44, .iload_n 2, 45, 0, 2, 0),
  (45, .new 27, 48, 0, 2, 0), (48, .dup, 49, 0, 0, 0), (49, .aload_n 0, 50, 0, 0, 0), (50, .getfield 23, 53, 0, 3, 0), (53, .invokespecial 33, 56, 0, 84, 1), (56, .aastore, 57, 0, 0, 0), (57, .iinc 2 1, 60, 1, 2, 0), (60, .goto (-25), 63, 0, 35, 0),
  (63, .return_, 64, 0, 0, 0)])
def m_ET_put : gM := (⟨"ExtentTree", "put", "(IIIIZ)I"⟩, prog_1_method_2_code, 7, (Option.some FieldType.int), 7, 165, [], [
  (0, .iload_n 1, 1, 0, 1, 0), (1, .invokestatic 36, 4, 0, 13, 1), (4, .ifCond .eq 29, 7, 0, 33, 0), (7, .iload_n 2, 8, 0, 2, 0), (8, .iload_n 3, 9, 0, 3, 0), (9, .invokestatic 40, 12, 0, 14, 2), (12, .ifCond .eq 21, 15, 0, 33, 0), (15, .iload_n 3, 16, 0, 3, 0),
  (16, .iload 5, 18, 0, 5, 0), (18, .invokestatic 44, 21, 0, 17, 1), (21, .if_icmp .gt 12, 24, 0, 33, 0), (24, .iload 4, 26, 0, 4, 0), (26, .iload_n 3, 27, 0, 3, 0), (27, .invokestatic 48, 30, 0, 15, 2), (30, .ifCond .ne 13, 33, 0, 43, 0), (33, .new 51, 36, 0, 0, 1),
  (36, .dup, 37, 0, 0, 0), (37, .ldc 53, 39, 0, 0, 1), (39, .invokespecial 55, 42, 2, 0, 0), (42, .athrow, 43, 0, 0, 0), (43, .aload_n 0, 44, 0, 0, 0), (44, .getfield 29, 47, 0, 3, 1), (47, .iload_n 1, 48, 0, 1, 0), (48, .aaload, 49, 0, 0, 0),
  (49, .astore 6, 51, 0, 6, 0), (51, .aload 6, 53, 0, 6, 0), (53, .iload_n 2, 54, 0, 2, 0), (54, .iload_n 3, 55, 0, 3, 0), (55, .invokevirtual 58, 58, 0, 97, 2), (58, .ifCond .eq 13, 61, 0, 71, 0), (61, .new 61, 64, 0, 0, 1), (64, .dup, 65, 0, 0, 0),
  (65, .ldc 63, 67, 0, 1, 1), (67, .invokespecial 65, 70, 2, 0, 0), (70, .athrow, 71, 0, 0, 0), (71, .aload 6, 73, 0, 6, 0), (73, .invokevirtual 66, 76, 0, 86, 0), (76, .ifCond .ne 13, 79, 0, 89, 0), (79, .new 70, 82, 0, 0, 1), (82, .dup, 83, 0, 0, 0),
  (83, .ldc 72, 85, 0, 2, 1), (85, .invokespecial 74, 88, 2, 0, 0), (88, .athrow, 89, 0, 0, 0), (89, .aload 6, 91, 0, 6, 0), (91, .iload_n 2, 92, 0, 2, 0), (92, .iload_n 3, 93, 0, 3, 0), (93, .iload 4, 95, 0, 4, 0), (95, .iload 5, 97, 0, 5, 0),
  (97, .invokevirtual 75, 100, 0, 102, 4), (100, .aload 6, 102, 0, 6, 0), (102, .invokevirtual 79, 105, 0, 114, 0), (105, .aload 6, 107, 0, 6, 0), (107, .getfield 82, 110, 0, 2, 1), (110, .ireturn, 111, 0, 0, 0)])
def m_ET_spread : gM := (⟨"ExtentTree", "spread", "(IIIII)I"⟩, prog_1_method_3_code, 9, (Option.some FieldType.int), 7, 165, [], [
  (0, .iload_n 1, 1, 0, 1, 0), (1, .invokestatic 36, 4, 0, 13, 1), (4, .ifCond .eq 27, 7, 0, 31, 0), (7, .iload_n 2, 8, 0, 2, 0), (8, .iload_n 3, 9, 0, 3, 0), (9, .iload 4, 11, 0, 4, 0), (11, .invokestatic 86, 14, 0, 16, 3), (14, .ifCond .eq 17, 17, 0, 31, 0),
  (17, .iload 5, 19, 0, 5, 0), (19, .iconst 2, 20, 2, 0, 0), (20, .iload 4, 22, 0, 4, 0), (22, .imul, 23, 0, 0, 0), (23, .iconst 1, 24, 1, 0, 0), (24, .isub, 25, 0, 0, 0), (25, .invokestatic 48, 28, 0, 15, 2), (28, .ifCond .ne 13, 31, 0, 41, 0),
  (31, .new 51, 34, 0, 0, 1), (34, .dup, 35, 0, 0, 0), (35, .ldc 90, 37, 0, 3, 1), (37, .invokespecial 55, 40, 2, 0, 0), (40, .athrow, 41, 0, 0, 0), (41, .aload_n 0, 42, 0, 0, 0), (42, .getfield 29, 45, 0, 3, 1), (45, .iload_n 1, 46, 0, 1, 0),
  (46, .aaload, 47, 0, 0, 0), (47, .astore 6, 49, 0, 6, 0), (49, .iconst 0, 50, 0, 0, 0), (50, .istore 7, 52, 0, 7, 0), (52, .iload 7, 54, 0, 7, 0), (54, .iload 4, 56, 0, 4, 0), (56, .if_icmp .ge 60, 59, 0, 116, 0), (59, .iload_n 2, 60, 0, 2, 0),
  (60, .iload 7, 62, 0, 7, 0), (62, .iload_n 3, 63, 0, 3, 0), (63, .imul, 64, 0, 0, 0), (64, .iadd, 65, 0, 0, 0), (65, .istore 8, 67, 0, 8, 0), (67, .aload 6, 69, 0, 6, 0), (69, .iload 8, 71, 0, 8, 0), (71, .iconst 1, 72, 1, 0, 0),
  (72, .invokevirtual 58, 75, 0, 97, 2), (75, .ifCond .ne 11, 78, 0, 86, 0), (78, .aload 6, 80, 0, 6, 0), (80, .invokevirtual 66, 83, 0, 86, 0), (83, .ifCond .ne 6, 86, 0, 89, 0), (86, .iload 7, 88, 0, 7, 0), (88, .ireturn, 89, 0, 0, 0), (89, .aload 6, 91, 0, 6, 0),
  (91, .iload 8, 93, 0, 8, 0), (93, .iconst 1, 94, 1, 0, 0), (94, .iload 5, 96, 0, 5, 0), (96, .iconst 2, 97, 2, 0, 0), (97, .iload 7, 99, 0, 7, 0), (99, .imul, 100, 0, 0, 0), (100, .iadd, 101, 0, 0, 0), (101, .iconst 1, 102, 1, 0, 0),
  (102, .invokevirtual 75, 105, 0, 102, 4), (105, .aload 6, 107, 0, 6, 0), (107, .invokevirtual 79, 110, 0, 114, 0), (110, .iinc 7 1, 113, 1, 7, 0), (113, .goto (-61), 116, 0, 52, 0), (116, .iload 4, 118, 0, 4, 0), (118, .ireturn, 119, 0, 0, 0)])
def m_ET_punch : gM := (⟨"ExtentTree", "punch", "(III)I"⟩, prog_1_method_4_code, 6, (Option.some FieldType.int), 7, 175, [], [
  (0, .iload_n 1, 1, 0, 1, 0), (1, .invokestatic 36, 4, 0, 13, 1), (4, .ifCond .eq 11, 7, 0, 15, 0), (7, .iload_n 2, 8, 0, 2, 0), (8, .iload_n 3, 9, 0, 3, 0), (9, .invokestatic 40, 12, 0, 14, 2), (12, .ifCond .ne 13, 15, 0, 25, 0), (15, .new 51, 18, 0, 0, 1),
  (18, .dup, 19, 0, 0, 0), (19, .ldc 92, 21, 0, 4, 1), (21, .invokespecial 55, 24, 2, 0, 0), (24, .athrow, 25, 0, 0, 0), (25, .aload_n 0, 26, 0, 0, 0), (26, .getfield 29, 29, 0, 3, 1), (29, .iload_n 1, 30, 0, 1, 0), (30, .aaload, 31, 0, 0, 0),
  (31, .astore 4, 33, 0, 4, 0), (33, .aload 4, 35, 0, 4, 0), (35, .invokevirtual 66, 38, 0, 86, 0), (38, .ifCond .ne 13, 41, 0, 51, 0), (41, .new 70, 44, 0, 0, 1), (44, .dup, 45, 0, 0, 0), (45, .ldc 72, 47, 0, 2, 1), (47, .invokespecial 74, 50, 2, 0, 0),
  (50, .athrow, 51, 0, 0, 0), (51, .aload 4, 53, 0, 4, 0), (53, .iload_n 2, 54, 0, 2, 0), (54, .iload_n 2, 55, 0, 2, 0), (55, .iload_n 3, 56, 0, 3, 0), (56, .iadd, 57, 0, 0, 0), (57, .invokevirtual 94, 60, 0, 105, 2), (60, .istore 5, 62, 0, 5, 0),
  (62, .aload 4, 64, 0, 4, 0), (64, .invokevirtual 79, 67, 0, 114, 0), (67, .iload 5, 69, 0, 5, 0), (69, .ireturn, 70, 0, 0, 0)])
def m_ET_strip : gM := (⟨"ExtentTree", "strip", "(IIII)I"⟩, prog_1_method_5_code, 9, (Option.some FieldType.int), 7, 175, [], [
  (0, .iload_n 1, 1, 0, 1, 0), (1, .invokestatic 36, 4, 0, 13, 1), (4, .ifCond .eq 13, 7, 0, 17, 0), (7, .iload_n 2, 8, 0, 2, 0), (8, .iload_n 3, 9, 0, 3, 0), (9, .iload 4, 11, 0, 4, 0), (11, .invokestatic 86, 14, 0, 16, 3), (14, .ifCond .ne 13, 17, 0, 27, 0),
  (17, .new 51, 20, 0, 0, 1), (20, .dup, 21, 0, 0, 0), (21, .ldc 97, 23, 0, 5, 1), (23, .invokespecial 55, 26, 2, 0, 0), (26, .athrow, 27, 0, 0, 0), (27, .aload_n 0, 28, 0, 0, 0), (28, .getfield 29, 31, 0, 3, 1), (31, .iload_n 1, 32, 0, 1, 0),
  (32, .aaload, 33, 0, 0, 0), (33, .astore 5, 35, 0, 5, 0), (35, .iconst 0, 36, 0, 0, 0), (36, .istore 6, 38, 0, 6, 0), (38, .iconst 0, 39, 0, 0, 0), (39, .istore 7, 41, 0, 7, 0), (41, .iload 7, 43, 0, 7, 0), (43, .iload 4, 45, 0, 4, 0),
  (45, .if_icmp .ge 46, 48, 0, 91, 0), (48, .aload 5, 50, 0, 5, 0), (50, .invokevirtual 66, 53, 0, 86, 0), (53, .ifCond .eq 38, 56, 0, 91, 0), (56, .iload_n 2, 57, 0, 2, 0), (57, .iload 7, 59, 0, 7, 0), (59, .iload_n 3, 60, 0, 3, 0), (60, .imul, 61, 0, 0, 0),
  (61, .iadd, 62, 0, 0, 0), (62, .istore 8, 64, 0, 8, 0), (64, .iload 6, 66, 0, 6, 0), (66, .aload 5, 68, 0, 5, 0), (68, .iload 8, 70, 0, 8, 0), (70, .iload 8, 72, 0, 8, 0), (72, .iconst 1, 73, 1, 0, 0), (73, .iadd, 74, 0, 0, 0),
  (74, .invokevirtual 94, 77, 0, 105, 2), (77, .iadd, 78, 0, 0, 0), (78, .istore 6, 80, 0, 6, 0), (80, .aload 5, 82, 0, 5, 0), (82, .invokevirtual 79, 85, 0, 114, 0), (85, .iinc 7 1, 88, 1, 7, 0), (88, .goto (-47), 91, 0, 41, 0), (91, .iload 6, 93, 0, 6, 0),
  (93, .ireturn, 94, 0, 0, 0)])
def m_ET_write : gM := (⟨"ExtentTree", "write", "(III)I"⟩, prog_1_method_6_code, 6, (Option.some FieldType.int), 7, 175, [], [
  (0, .iload_n 1, 1, 0, 1, 0), (1, .invokestatic 36, 4, 0, 13, 1), (4, .ifCond .eq 11, 7, 0, 15, 0), (7, .iload_n 2, 8, 0, 2, 0), (8, .iload_n 3, 9, 0, 3, 0), (9, .invokestatic 40, 12, 0, 14, 2), (12, .ifCond .ne 13, 15, 0, 25, 0), (15, .new 51, 18, 0, 0, 1),
  (18, .dup, 19, 0, 0, 0), (19, .ldc 92, 21, 0, 4, 1), (21, .invokespecial 55, 24, 2, 0, 0), (24, .athrow, 25, 0, 0, 0), (25, .aload_n 0, 26, 0, 0, 0), (26, .getfield 29, 29, 0, 3, 1), (29, .iload_n 1, 30, 0, 1, 0), (30, .aaload, 31, 0, 0, 0),
  (31, .astore 4, 33, 0, 4, 0), (33, .aload 4, 35, 0, 4, 0), (35, .iload_n 2, 36, 0, 2, 0), (36, .iload_n 3, 37, 0, 3, 0), (37, .invokevirtual 99, 40, 0, 98, 2), (40, .ifCond .ne 13, 43, 0, 53, 0), (43, .new 61, 46, 0, 0, 1), (46, .dup, 47, 0, 0, 0),
  (47, .ldc 102, 49, 0, 6, 1), (49, .invokespecial 65, 52, 2, 0, 0), (52, .athrow, 53, 0, 0, 0), (53, .aload 4, 55, 0, 4, 0), (55, .invokevirtual 104, 58, 0, 87, 0), (58, .ifCond .ne 13, 61, 0, 71, 0), (61, .new 70, 64, 0, 0, 1), (64, .dup, 65, 0, 0, 0),
  (65, .ldc 72, 67, 0, 2, 1), (67, .invokespecial 74, 70, 2, 0, 0), (70, .athrow, 71, 0, 0, 0), (71, .aload 4, 73, 0, 4, 0), (73, .iload_n 2, 74, 0, 2, 0), (74, .invokevirtual 107, 77, 0, 99, 1), (77, .istore 5, 79, 0, 5, 0), (79, .aload 4, 81, 0, 4, 0),
  (81, .iload_n 2, 82, 0, 2, 0), (82, .iload_n 2, 83, 0, 2, 0), (83, .iload_n 3, 84, 0, 3, 0), (84, .iadd, 85, 0, 0, 0), (85, .invokevirtual 94, 88, 0, 105, 2), (88, .pop, 89, 0, 0, 0), (89, .aload 4, 91, 0, 4, 0), (91, .iload_n 2, 92, 0, 2, 0),
  (92, .iload_n 3, 93, 0, 3, 0), (93, .iload 5, 95, 0, 5, 0), (95, .iconst 1, 96, 1, 0, 0), (96, .invokevirtual 75, 99, 0, 102, 4), (99, .aload 4, 101, 0, 4, 0), (101, .invokevirtual 79, 104, 0, 114, 0), (104, .aload 4, 106, 0, 4, 0), (106, .getfield 82, 109, 0, 2, 1),
  (109, .ireturn, 110, 0, 0, 0)])
def m_ET_look : gM := (⟨"ExtentTree", "look", "(II)I"⟩, prog_1_method_7_code, 3, (Option.some FieldType.int), 6, 133, [], [
  (0, .iload_n 1, 1, 0, 1, 0), (1, .invokestatic 36, 4, 0, 13, 1), (4, .ifCond .eq 11, 7, 0, 15, 0), (7, .iload_n 2, 8, 0, 2, 0), (8, .iconst 1, 9, 1, 0, 0), (9, .invokestatic 40, 12, 0, 14, 2), (12, .ifCond .ne 13, 15, 0, 25, 0), (15, .new 51, 18, 0, 0, 1),
  (18, .dup, 19, 0, 0, 0), (19, .ldc 111, 21, 0, 7, 1), (21, .invokespecial 55, 24, 2, 0, 0), (24, .athrow, 25, 0, 0, 0), (25, .aload_n 0, 26, 0, 0, 0), (26, .getfield 29, 29, 0, 3, 1), (29, .iload_n 1, 30, 0, 1, 0), (30, .aaload, 31, 0, 0, 0),
  (31, .iload_n 2, 32, 0, 2, 0), (32, .invokevirtual 107, 35, 0, 99, 1), (35, .ireturn, 36, 0, 0, 0)])
def m_ET_written : gM := (⟨"ExtentTree", "written", "(II)Z"⟩, prog_1_method_8_code, 3, (Option.some FieldType.boolean), 6, 133, [], [
  (0, .iload_n 1, 1, 0, 1, 0), (1, .invokestatic 36, 4, 0, 13, 1), (4, .ifCond .eq 11, 7, 0, 15, 0), (7, .iload_n 2, 8, 0, 2, 0), (8, .iconst 1, 9, 1, 0, 0), (9, .invokestatic 40, 12, 0, 14, 2), (12, .ifCond .ne 13, 15, 0, 25, 0), (15, .new 51, 18, 0, 0, 1),
  (18, .dup, 19, 0, 0, 0), (19, .ldc 111, 21, 0, 7, 1), (21, .invokespecial 55, 24, 2, 0, 0), (24, .athrow, 25, 0, 0, 0), (25, .aload_n 0, 26, 0, 0, 0), (26, .getfield 29, 29, 0, 3, 1), (29, .iload_n 1, 30, 0, 1, 0), (30, .aaload, 31, 0, 0, 0),
  (31, .iload_n 2, 32, 0, 2, 0), (32, .invokevirtual 113, 35, 0, 100, 1), (35, .ireturn, 36, 0, 0, 0)])
def m_ET_reach : gM := (⟨"ExtentTree", "reach", "(II)I"⟩, prog_1_method_9_code, 3, (Option.some FieldType.int), 6, 133, [], [
  (0, .iload_n 1, 1, 0, 1, 0), (1, .invokestatic 36, 4, 0, 13, 1), (4, .ifCond .eq 11, 7, 0, 15, 0), (7, .iload_n 2, 8, 0, 2, 0), (8, .iconst 1, 9, 1, 0, 0), (9, .invokestatic 40, 12, 0, 14, 2), (12, .ifCond .ne 13, 15, 0, 25, 0), (15, .new 51, 18, 0, 0, 1),
  (18, .dup, 19, 0, 0, 0), (19, .ldc 111, 21, 0, 7, 1), (21, .invokespecial 55, 24, 2, 0, 0), (24, .athrow, 25, 0, 0, 0), (25, .aload_n 0, 26, 0, 0, 0), (26, .getfield 29, 29, 0, 3, 1), (29, .iload_n 1, 30, 0, 1, 0), (30, .aaload, 31, 0, 0, 0),
  (31, .iload_n 2, 32, 0, 2, 0), (32, .invokevirtual 116, 35, 0, 101, 1), (35, .ireturn, 36, 0, 0, 0)])
def m_ET_count : gM := (⟨"ExtentTree", "count", "(II)I"⟩, prog_1_method_10_code, 4, (Option.some FieldType.int), 6, 90, [], [
  (0, .iload_n 1, 1, 0, 1, 0), (1, .invokestatic 36, 4, 0, 13, 1), (4, .ifCond .eq 12, 7, 0, 16, 0), (7, .iload_n 2, 8, 0, 2, 0), (8, .ifCond .lt 8, 11, 0, 16, 0), (11, .iload_n 2, 12, 0, 2, 0), (12, .iconst 5, 13, 5, 0, 0), (13, .if_icmp .le 13, 16, 0, 26, 0),
  (16, .new 51, 19, 0, 0, 1), (19, .dup, 20, 0, 0, 0), (20, .ldc 119, 22, 0, 8, 1), (22, .invokespecial 55, 25, 2, 0, 0), (25, .athrow, 26, 0, 0, 0), (26, .aload_n 0, 27, 0, 0, 0), (27, .getfield 29, 30, 0, 3, 1), (30, .iload_n 1, 31, 0, 1, 0),
  (31, .aaload, 32, 0, 0, 0), (32, .astore_n 3, 33, 0, 3, 0), (33, .iload_n 2, 34, 0, 2, 0), (34, .tableswitch 62 0 4 #[34, 39, 47, 52, 57], 68, 0, 0, 0), (68, .aload_n 3, 69, 0, 3, 0), (69, .getfield 82, 72, 0, 2, 1), (72, .ireturn, 73, 0, 0, 0), (73, .aload_n 3, 74, 0, 3, 0),
  (74, .getfield 121, 77, 0, 2, 0), (77, .getfield 125, 80, 0, 0, 3), (80, .ireturn, 81, 0, 0, 0), (81, .aload_n 3, 82, 0, 3, 0), (82, .getfield 130, 85, 0, 2, 2), (85, .ireturn, 86, 0, 0, 0), (86, .aload_n 3, 87, 0, 3, 0), (87, .getfield 133, 90, 0, 2, 3),
  (90, .ireturn, 91, 0, 0, 0), (91, .aload_n 3, 92, 0, 3, 0), (92, .getfield 136, 95, 0, 2, 4), (95, .ireturn, 96, 0, 0, 0), (96, .aload_n 3, 97, 0, 3, 0), (97, .invokevirtual 139, 100, 0, 85, 0), (100, .ireturn, 101, 0, 0, 0)])
def m_ET_free : gM := (⟨"ExtentTree", "free", "()I"⟩, prog_1_method_11_code, 1, (Option.some FieldType.int), 0, 0, [], [
  (0, .aload_n 0, 1, 0, 0, 0), (1, .getfield 23, 4, 0, 3, 0), (4, .getfield 143, 7, 0, 1, 0), (7, .ireturn, 8, 0, 0, 0)])
def m_ET_rootByte : gM := (⟨"ExtentTree", "rootByte", "(II)I"⟩, prog_1_method_12_code, 3, (Option.some FieldType.int), 6, 90, [], [
  (0, .iload_n 1, 1, 0, 1, 0), (1, .invokestatic 36, 4, 0, 13, 1), (4, .ifCond .ne 13, 7, 0, 17, 0), (7, .new 51, 10, 0, 0, 1), (10, .dup, 11, 0, 0, 0), (11, .ldc 146, 13, 0, 9, 1), (13, .invokespecial 55, 16, 2, 0, 0), (16, .athrow, 17, 0, 0, 0),
  (17, .iload_n 2, 18, 0, 2, 0), (18, .ifCond .lt 9, 21, 0, 27, 0), (21, .iload_n 2, 22, 0, 2, 0), (22, .bipush 60, 24, 60, 0, 0), (24, .if_icmp .lt 13, 27, 0, 37, 0), (27, .new 148, 30, 0, 0, 1), (30, .dup, 31, 0, 0, 0), (31, .ldc 150, 33, 0, 10, 1),
  (33, .invokespecial 152, 36, 2, 0, 0), (36, .athrow, 37, 0, 0, 0), (37, .aload_n 0, 38, 0, 0, 0), (38, .getfield 29, 41, 0, 3, 1), (41, .iload_n 1, 42, 0, 1, 0), (42, .aaload, 43, 0, 0, 0), (43, .getfield 121, 46, 0, 2, 0), (46, .iload_n 2, 47, 0, 2, 0),
  (47, .invokevirtual 153, 50, 0, 77, 1), (50, .ireturn, 51, 0, 0, 0)])
def m_ET_nodeByte : gM := (⟨"ExtentTree", "nodeByte", "(II)I"⟩, prog_1_method_13_code, 3, (Option.some FieldType.int), 6, 90, [], [
  (0, .aload_n 0, 1, 0, 0, 0), (1, .getfield 23, 4, 0, 3, 0), (4, .iload_n 1, 5, 0, 1, 0), (5, .invokevirtual 156, 8, 0, 81, 1), (8, .ifCond .eq 14, 11, 0, 22, 0), (11, .iload_n 2, 12, 0, 2, 0), (12, .ifCond .lt 10, 15, 0, 22, 0), (15, .iload_n 2, 16, 0, 2, 0),
  (16, .sipush 1024, 19, 1024, 0, 0), (19, .if_icmp .lt 13, 22, 0, 32, 0), (22, .new 148, 25, 0, 0, 1), (25, .dup, 26, 0, 0, 0), (26, .ldc 159, 28, 0, 11, 1), (28, .invokespecial 152, 31, 2, 0, 0), (31, .athrow, 32, 0, 0, 0), (32, .aload_n 0, 33, 0, 0, 0),
  (33, .getfield 23, 36, 0, 3, 0), (36, .iload_n 1, 37, 0, 1, 0), (37, .invokevirtual 161, 40, 0, 80, 1), (40, .iload_n 2, 41, 0, 2, 0), (41, .invokevirtual 153, 44, 0, 77, 1), (44, .ireturn, 45, 0, 0, 0)])
def m_ET_isFile : gM := (⟨"ExtentTree", "isFile", "(I)Z"⟩, prog_1_method_14_code, 1, (Option.some FieldType.boolean), 0, 0, [], [
  (0, .iload_n 0, 1, 0, 0, 0), (1, .ifCond .lt 12, 4, 0, 13, 0), (4, .iload_n 0, 5, 0, 0, 0), (5, .iconst 4, 6, 4, 0, 0), (6, .if_icmp .ge 7, 9, 0, 13, 0), (9, .iconst 1, 10, 1, 0, 0), (10, .goto 4, 13, 0, 14, 0), (13, .iconst 0, 14, 0, 0, 0),
  (14, .ireturn, 15, 0, 0, 0)])
def m_ET_areFileBlocks : gM := (⟨"ExtentTree", "areFileBlocks", "(II)Z"⟩, prog_1_method_15_code, 2, (Option.some FieldType.boolean), 0, 0, [], [
  (0, .iload_n 0, 1, 0, 0, 0), (1, .ifCond .lt 26, 4, 0, 27, 0), (4, .iload_n 0, 5, 0, 0, 0), (5, .ldc 165, 7, 65536, 0, 0), (7, .if_icmp .ge 20, 10, 0, 27, 0), (10, .iload_n 1, 11, 0, 1, 0), (11, .iconst 1, 12, 1, 0, 0), (12, .if_icmp .lt 15, 15, 0, 27, 0),
  (15, .iload_n 1, 16, 0, 1, 0), (16, .ldc 165, 18, 65536, 0, 0), (18, .iload_n 0, 19, 0, 0, 0), (19, .isub, 20, 0, 0, 0), (20, .if_icmp .gt 7, 23, 0, 27, 0), (23, .iconst 1, 24, 1, 0, 0), (24, .goto 4, 27, 0, 28, 0), (27, .iconst 0, 28, 0, 0, 0),
  (28, .ireturn, 29, 0, 0, 0)])
def m_ET_areVolumeBlocks : gM := (⟨"ExtentTree", "areVolumeBlocks", "(II)Z"⟩, prog_1_method_16_code, 2, (Option.some FieldType.boolean), 0, 0, [], [
  (0, .iload_n 0, 1, 0, 0, 0), (1, .iconst 1, 2, 1, 0, 0), (2, .if_icmp .lt 23, 5, 0, 25, 0), (5, .iload_n 0, 6, 0, 0, 0), (6, .ldc 166, 8, 16777216, 0, 0), (8, .if_icmp .gt 17, 11, 0, 25, 0), (11, .iload_n 1, 12, 0, 1, 0), (12, .ldc 166, 14, 16777216, 0, 0),
  (14, .iload_n 0, 15, 0, 0, 0), (15, .isub, 16, 0, 0, 0), (16, .iconst 1, 17, 1, 0, 0), (17, .iadd, 18, 0, 0, 0), (18, .if_icmp .gt 7, 21, 0, 25, 0), (21, .iconst 1, 22, 1, 0, 0), (22, .goto 4, 25, 0, 26, 0), (25, .iconst 0, 26, 0, 0, 0),
  (26, .ireturn, 27, 0, 0, 0)])
def m_ET_isSeries : gM := (⟨"ExtentTree", "isSeries", "(III)Z"⟩, prog_1_method_17_code, 3, (Option.some FieldType.boolean), 1, 21, [], [
  (0, .iload_n 1, 1, 0, 1, 0), (1, .iconst 1, 2, 1, 0, 0), (2, .if_icmp .lt 40, 5, 0, 42, 0), (5, .iload_n 1, 6, 0, 1, 0), (6, .sipush 2000, 9, 2000, 0, 0), (9, .if_icmp .gt 33, 12, 0, 42, 0), (12, .iload_n 2, 13, 0, 2, 0), (13, .iconst 1, 14, 1, 0, 0),
  (14, .if_icmp .lt 28, 17, 0, 42, 0), (17, .iload_n 2, 18, 0, 2, 0), (18, .sipush 2000, 21, 2000, 0, 0), (21, .if_icmp .gt 21, 24, 0, 42, 0), (24, .iload_n 0, 25, 0, 0, 0), (25, .iload_n 2, 26, 0, 2, 0), (26, .iconst 1, 27, 1, 0, 0), (27, .isub, 28, 0, 0, 0),
  (28, .iload_n 1, 29, 0, 1, 0), (29, .imul, 30, 0, 0, 0), (30, .iconst 1, 31, 1, 0, 0), (31, .iadd, 32, 0, 0, 0), (32, .invokestatic 40, 35, 0, 14, 2), (35, .ifCond .eq 7, 38, 0, 42, 0), (38, .iconst 1, 39, 1, 0, 0), (39, .goto 4, 42, 0, 43, 0),
  (42, .iconst 0, 43, 0, 0, 0), (43, .ireturn, 44, 0, 0, 0)])
def m_ET_longest : gM := (⟨"ExtentTree", "longest", "(Z)I"⟩, prog_1_method_18_code, 1, (Option.some FieldType.int), 0, 0, [], [
  (0, .iload_n 0, 1, 0, 0, 0), (1, .ifCond .eq 8, 4, 0, 9, 0), (4, .ldc 167, 6, 32768, 0, 0), (6, .goto 6, 9, 0, 12, 0), (9, .sipush 32767, 12, 32767, 0, 0), (12, .ireturn, 13, 0, 0, 0)])
def m_Mod_init : gM := (⟨"ExtentTreeModel", "<init>", "(I)V"⟩, prog_6_method_1_code, 2, (none : Option FieldType), 1, 20, [], [
  (0, .aload_n 0, 1, 0, 0, 0), (1, .invokespecial 1, 4, 1, 0, 0), (4, .aload_n 0, 5, 0, 0, 0), (5, .iconst 5, 6, 5, 0, 0), (6, .newarray .int, 8, 0, 0, 0), (8, .putfield 7, 11, 0, 4, 2), (11, .aload_n 0, 12, 0, 0, 0), (12, .sipush 21600, 15, 21600, 0, 0),
  (15, .newarray .int, 17, 0, 0, 0), (17, .putfield 13, 20, 0, 4, 3), (20, .aload_n 0, 21, 0, 0, 0), (21, .sipush 21600, 24, 21600, 0, 0), (24, .newarray .int, 26, 0, 0, 0), (26, .putfield 16, 29, 0, 4, 4), (29, .aload_n 0, 30, 0, 0, 0), (30, .sipush 21600, 33, 21600, 0, 0),
  (33, .newarray .int, 35, 0, 0, 0), (35, .putfield 19, 38, 0, 4, 5), (38, .aload_n 0, 39, 0, 0, 0), (39, .sipush 21600, 42, 21600, 0, 0), (42, .newarray .boolean, 44, 0, 4, 0), (44, .putfield 22, 47, 0, 4, 6), (47, .aload_n 0, 48, 0, 0, 0), (48, .iconst 4, 49, 4, 0, 0),
  (49, .newarray .int, 51, 0, 0, 0), (51, .putfield 26, 54, 0, 4, 7), (54, .aload_n 0, 55, 0, 0, 0), (55, .iconst 4, 56, 4, 0, 0), (56, .newarray .int, 58, 0, 0, 0), (58, .putfield 29, 61, 0, 4, 8), (61, .aload_n 0, 62, 0, 0, 0), (62, .sipush 1536, 65, 1536, 0, 0),
  (65, .newarray .int, 67, 0, 0, 0), (67, .putfield 32, 70, 0, 4, 9), (70, .aload_n 0, 71, 0, 0, 0), (71, .sipush 1536, 74, 1536, 0, 0), (74, .newarray .int, 76, 0, 0, 0), (76, .putfield 35, 79, 0, 4, 10), (79, .aload_n 0, 80, 0, 0, 0), (80, .bipush 24, 82, 24, 0, 0),
  (82, .newarray .int, 84, 0, 0, 0), (84, .putfield 38, 87, 0, 4, 11), (87, .aload_n 0, 88, 0, 0, 0), (88, .sipush 256, 91, 256, 0, 0), (91, .newarray .boolean, 93, 0, 4, 0), (93, .putfield 41, 96, 0, 4, 12), (96, .aload_n 0, 97, 0, 0, 0), (97, .bipush 8, 99, 8, 0, 0),
  (99, .newarray .int, 101, 0, 0, 0), (101, .putfield 44, 104, 0, 4, 13), (104, .aload_n 0, 105, 0, 0, 0), (105, .bipush 8, 107, 8, 0, 0), (107, .newarray .int, 109, 0, 0, 0), (109, .putfield 47, 112, 0, 4, 14), (112, .aload_n 0, 113, 0, 0, 0), (113, .bipush 8, 115, 8, 0, 0),
  (115, .newarray .int, 117, 0, 0, 0), (117, .putfield 50, 120, 0, 4, 15), (120, .aload_n 0, 121, 0, 0, 0), (121, .iload_n 1, 122, 0, 1, 0), (122, .iconst 5, 123, 5, 0, 0), (123, .if_icmp .ge 7, 126, 0, 130, 0), (126, .iconst 5, 127, 5, 0, 0), (127, .goto 15, 130, 0, 142, 0),
  (130, .iload_n 1, 131, 0, 1, 0), (131, .bipush 84, 133, 84, 0, 0), (133, .if_icmp .le 8, 136, 0, 141, 0), (136, .bipush 84, 138, 84, 0, 0), (138, .goto 4, 141, 0, 142, 0), (141, .iload_n 1, 142, 0, 1, 0), (142, .putfield 53, 145, 0, 4, 1), (145, .aload_n 0, 146, 0, 0, 0),
  (146, .getfield 41, 149, 0, 4, 12), (149, .iconst 0, 150, 0, 0, 0), (150, .iconst 1, 151, 1, 0, 0), (151, .bastore, 152, 0, 0, 0), (152, .return_, 153, 0, 0, 0)])
def m_Mod_thrown : gM := (⟨"ExtentTreeModel", "thrown", "()I"⟩, prog_6_method_2_code, 1, (Option.some FieldType.int), 0, 0, [], [
  (0, .aload_n 0, 1, 0, 0, 0), (1, .getfield 57, 4, 0, 4, 0), (4, .ireturn, 5, 0, 0, 0)])
def m_Mod_takeBlock : gM := (⟨"ExtentTreeModel", "takeBlock", "()I"⟩, prog_6_method_3_code, 2, (Option.some FieldType.int), 0, 0, [], [
  (0, .iconst 0, 1, 0, 0, 0), (1, .istore_n 1, 2, 0, 1, 0), (2, .aload_n 0, 3, 0, 0, 0), (3, .getfield 41, 6, 0, 4, 12), (6, .iload_n 1, 7, 0, 1, 0), (7, .baload, 8, 0, 0, 0), (8, .ifCond .eq 9, 11, 0, 17, 0), (11, .iinc 1 1, 14, 1, 1, 0),
  (14, .goto (-12), 17, 0, 2, 0), (17, .aload_n 0, 18, 0, 0, 0), (18, .getfield 41, 21, 0, 4, 12), (21, .iload_n 1, 22, 0, 1, 0), (22, .iconst 1, 23, 1, 0, 0), (23, .bastore, 24, 0, 0, 0), (24, .iload_n 1, 25, 0, 1, 0), (25, .ireturn, 26, 0, 0, 0)])
def m_Mod_free : gM := (⟨"ExtentTreeModel", "free", "()I"⟩, prog_6_method_4_code, 1, (Option.some FieldType.int), 1, 22, [], [
  (0, .aload_n 0, 1, 0, 0, 0), (1, .iconst 0, 2, 0, 0, 0), (2, .putfield 57, 5, 0, 4, 0), (5, .aload_n 0, 6, 0, 0, 0), (6, .invokevirtual 60, 9, 0, 22, 0), (9, .ireturn, 10, 0, 0, 0)])
def m_Mod_freeBlocks : gM := (⟨"ExtentTreeModel", "freeBlocks", "()I"⟩, prog_6_method_5_code, 3, (Option.some FieldType.int), 0, 0, [], [
  (0, .iconst 0, 1, 0, 0, 0), (1, .istore_n 1, 2, 0, 1, 0), (2, .iconst 0, 3, 0, 0, 0), (3, .istore_n 2, 4, 0, 2, 0), (4, .iload_n 2, 5, 0, 2, 0), (5, .sipush 256, 8, 256, 0, 0), (8, .if_icmp .ge 26, 11, 0, 34, 0), (11, .iload_n 1, 12, 0, 1, 0),
  (12, .aload_n 0, 13, 0, 0, 0), (13, .getfield 41, 16, 0, 4, 12), (16, .iload_n 2, 17, 0, 2, 0), (17, .baload, 18, 0, 0, 0), (18, .ifCond .eq 7, 21, 0, 25, 0), (21, .iconst 0, 22, 0, 0, 0), (22, .goto 4, 25, 0, 26, 0), (25, .iconst 1, 26, 1, 0, 0),
  (26, .iadd, 27, 0, 0, 0), (27, .istore_n 1, 28, 0, 1, 0), (28, .iinc 2 1, 31, 1, 2, 0), (31, .goto (-27), 34, 0, 4, 0), (34, .iload_n 1, 35, 0, 1, 0), (35, .ireturn, 36, 0, 0, 0)])
def m_Mod_levelOf : gM := (⟨"ExtentTreeModel", "levelOf", "(II)I"⟩, prog_6_method_6_code, 5, (Option.some FieldType.int), 0, 0, [], [
  (0, .sipush 256, 3, 256, 0, 0), (3, .iload_n 2, 4, 0, 2, 0), (4, .imul, 5, 0, 0, 0), (5, .istore_n 3, 6, 0, 3, 0), (6, .iconst 0, 7, 0, 0, 0), (7, .istore 4, 9, 0, 4, 0), (9, .iload 4, 11, 0, 4, 0), (11, .iload_n 1, 12, 0, 1, 0),
  (12, .if_icmp .ge 24, 15, 0, 36, 0), (15, .iload_n 3, 16, 0, 3, 0), (16, .aload_n 0, 17, 0, 0, 0), (17, .getfield 38, 20, 0, 4, 11), (20, .bipush 6, 22, 6, 0, 0), (22, .iload 4, 24, 0, 4, 0), (24, .imul, 25, 0, 0, 0), (25, .iload_n 2, 26, 0, 2, 0),
  (26, .iadd, 27, 0, 0, 0), (27, .iaload, 28, 0, 0, 0), (28, .iadd, 29, 0, 0, 0), (29, .istore_n 3, 30, 0, 3, 0), (30, .iinc 4 1, 33, 1, 4, 0), (33, .goto (-24), 36, 0, 9, 0), (36, .iload_n 3, 37, 0, 3, 0), (37, .ireturn, 38, 0, 0, 0)])
def m_Mod_levelEnd : gM := (⟨"ExtentTreeModel", "levelEnd", "(I)I"⟩, prog_6_method_7_code, 2, (Option.some FieldType.int), 1, 24, [], [
  (0, .aload_n 0, 1, 0, 0, 0), (1, .iconst 4, 2, 4, 0, 0), (2, .iload_n 1, 3, 0, 1, 0), (3, .invokevirtual 64, 6, 0, 23, 2), (6, .ireturn, 7, 0, 0, 0)])
def m_Mod_insertNode : gM := (⟨"ExtentTreeModel", "insertNode", "(IIIII)V"⟩, prog_6_method_8_code, 7, (none : Option FieldType), 2, 45, [], [
  (0, .aload_n 0, 1, 0, 0, 0), (1, .iload_n 2, 2, 0, 2, 0), (2, .invokevirtual 68, 5, 0, 24, 1), (5, .istore 6, 7, 0, 6, 0), (7, .iload 6, 9, 0, 6, 0), (9, .iload_n 3, 10, 0, 3, 0), (10, .if_icmp .le 41, 13, 0, 51, 0), (13, .aload_n 0, 14, 0, 0, 0),
  (14, .getfield 32, 17, 0, 4, 9), (17, .iload 6, 19, 0, 6, 0), (19, .aload_n 0, 20, 0, 0, 0), (20, .getfield 32, 23, 0, 4, 9), (23, .iload 6, 25, 0, 6, 0), (25, .iconst 1, 26, 1, 0, 0), (26, .isub, 27, 0, 0, 0), (27, .iaload, 28, 0, 0, 0),
  (28, .iastore, 29, 0, 0, 0), (29, .aload_n 0, 30, 0, 0, 0), (30, .getfield 35, 33, 0, 4, 10), (33, .iload 6, 35, 0, 6, 0), (35, .aload_n 0, 36, 0, 0, 0), (36, .getfield 35, 39, 0, 4, 10), (39, .iload 6, 41, 0, 6, 0), (41, .iconst 1, 42, 1, 0, 0),
  (42, .isub, 43, 0, 0, 0), (43, .iaload, 44, 0, 0, 0), (44, .iastore, 45, 0, 0, 0), (45, .iinc 6 (-1), 48, (-1), 6, 0), (48, .goto (-41), 51, 0, 7, 0), (51, .aload_n 0, 52, 0, 0, 0), (52, .getfield 32, 55, 0, 4, 9), (55, .iload_n 3, 56, 0, 3, 0),
  (56, .iload 4, 58, 0, 4, 0), (58, .iastore, 59, 0, 0, 0), (59, .aload_n 0, 60, 0, 0, 0), (60, .getfield 35, 63, 0, 4, 10), (63, .iload_n 3, 64, 0, 3, 0), (64, .iload 5, 66, 0, 5, 0), (66, .iastore, 67, 0, 0, 0), (67, .aload_n 0, 68, 0, 0, 0),
  (68, .getfield 38, 71, 0, 4, 11), (71, .bipush 6, 73, 6, 0, 0), (73, .iload_n 1, 74, 0, 1, 0), (74, .imul, 75, 0, 0, 0), (75, .iload_n 2, 76, 0, 2, 0), (76, .iadd, 77, 0, 0, 0), (77, .dup2, 78, 0, 0, 0), (78, .iaload, 79, 0, 0, 0),
  (79, .iconst 1, 80, 1, 0, 0), (80, .iadd, 81, 0, 0, 0), (81, .iastore, 82, 0, 0, 0), (82, .return_, 83, 0, 0, 0)])
def m_Mod_removeNode : gM := (⟨"ExtentTreeModel", "removeNode", "(III)V"⟩, prog_6_method_9_code, 6, (none : Option FieldType), 2, 45, [], [
  (0, .aload_n 0, 1, 0, 0, 0), (1, .getfield 41, 4, 0, 4, 12), (4, .aload_n 0, 5, 0, 0, 0), (5, .getfield 32, 8, 0, 4, 9), (8, .iload_n 3, 9, 0, 3, 0), (9, .iaload, 10, 0, 0, 0), (10, .iconst 0, 11, 0, 0, 0), (11, .bastore, 12, 0, 0, 0),
  (12, .aload_n 0, 13, 0, 0, 0), (13, .iload_n 2, 14, 0, 2, 0), (14, .invokevirtual 68, 17, 0, 24, 1), (17, .iconst 1, 18, 1, 0, 0), (18, .isub, 19, 0, 0, 0), (19, .istore 4, 21, 0, 4, 0), (21, .iload_n 3, 22, 0, 3, 0), (22, .istore 5, 24, 0, 5, 0),
  (24, .iload 5, 26, 0, 5, 0), (26, .iload 4, 28, 0, 4, 0), (28, .if_icmp .ge 41, 31, 0, 69, 0), (31, .aload_n 0, 32, 0, 0, 0), (32, .getfield 32, 35, 0, 4, 9), (35, .iload 5, 37, 0, 5, 0), (37, .aload_n 0, 38, 0, 0, 0), (38, .getfield 32, 41, 0, 4, 9),
  (41, .iload 5, 43, 0, 5, 0), (43, .iconst 1, 44, 1, 0, 0), (44, .iadd, 45, 0, 0, 0), (45, .iaload, 46, 0, 0, 0), (46, .iastore, 47, 0, 0, 0), (47, .aload_n 0, 48, 0, 0, 0), (48, .getfield 35, 51, 0, 4, 10), (51, .iload 5, 53, 0, 5, 0),
  (53, .aload_n 0, 54, 0, 0, 0), (54, .getfield 35, 57, 0, 4, 10), (57, .iload 5, 59, 0, 5, 0), (59, .iconst 1, 60, 1, 0, 0), (60, .iadd, 61, 0, 0, 0), (61, .iaload, 62, 0, 0, 0), (62, .iastore, 63, 0, 0, 0), (63, .iinc 5 1, 66, 1, 5, 0),
  (66, .goto (-42), 69, 0, 24, 0), (69, .aload_n 0, 70, 0, 0, 0), (70, .getfield 38, 73, 0, 4, 11), (73, .bipush 6, 75, 6, 0, 0), (75, .iload_n 1, 76, 0, 1, 0), (76, .imul, 77, 0, 0, 0), (77, .iload_n 2, 78, 0, 2, 0), (78, .iadd, 79, 0, 0, 0),
  (79, .dup2, 80, 0, 0, 0), (80, .iaload, 81, 0, 0, 0), (81, .iconst 1, 82, 1, 0, 0), (82, .isub, 83, 0, 0, 0), (83, .iastore, 84, 0, 0, 0), (84, .return_, 85, 0, 0, 0)])
def m_Mod_findWay : gM := (⟨"ExtentTreeModel", "findWay", "(II)V"⟩, prog_6_method_10_code, 7, (none : Option FieldType), 1, 24, [], [
  (0, .iload_n 2, 1, 0, 2, 0), (1, .istore_n 3, 2, 0, 3, 0), (2, .iconst 0, 3, 0, 0, 0), (3, .istore 4, 5, 0, 4, 0), (5, .iload 4, 7, 0, 4, 0), (7, .aload_n 0, 8, 0, 0, 0), (8, .getfield 26, 11, 0, 4, 7), (11, .iload_n 1, 12, 0, 1, 0),
  (12, .iaload, 13, 0, 0, 0), (13, .if_icmp .ge 72, 16, 0, 85, 0), (16, .aload_n 0, 17, 0, 0, 0), (17, .iload_n 1, 18, 0, 1, 0), (18, .iload 4, 20, 0, 4, 0), (20, .invokevirtual 64, 23, 0, 23, 2), (23, .istore 5, 25, 0, 5, 0), (25, .iload 5, 27, 0, 5, 0),
  (27, .istore 6, 29, 0, 6, 0), (29, .iload_n 3, 30, 0, 3, 0), (30, .aload_n 0, 31, 0, 0, 0), (31, .getfield 35, 34, 0, 4, 10), (34, .iload 5, 36, 0, 5, 0), (36, .iaload, 37, 0, 0, 0), (37, .if_icmp .lt 19, 40, 0, 56, 0), (40, .iload_n 3, 41, 0, 3, 0),
  (41, .aload_n 0, 42, 0, 0, 0), (42, .getfield 35, 45, 0, 4, 10), (45, .iload 5, 47, 0, 5, 0), (47, .iaload, 48, 0, 0, 0), (48, .isub, 49, 0, 0, 0), (49, .istore_n 3, 50, 0, 3, 0), (50, .iinc 5 1, 53, 1, 5, 0), (53, .goto (-24), 56, 0, 29, 0),
  (56, .aload_n 0, 57, 0, 0, 0), (57, .getfield 44, 60, 0, 4, 13), (60, .iload 4, 62, 0, 4, 0), (62, .iload 5, 64, 0, 5, 0), (64, .iastore, 65, 0, 0, 0), (65, .aload_n 0, 66, 0, 0, 0), (66, .getfield 47, 69, 0, 4, 14), (69, .iload 4, 71, 0, 4, 0),
  (71, .iload_n 3, 72, 0, 3, 0), (72, .iastore, 73, 0, 0, 0), (73, .iload 5, 75, 0, 5, 0), (75, .iload 6, 77, 0, 6, 0), (77, .isub, 78, 0, 0, 0), (78, .istore_n 3, 79, 0, 3, 0), (79, .iinc 4 1, 82, 1, 4, 0), (82, .goto (-77), 85, 0, 5, 0),
  (85, .aload_n 0, 86, 0, 0, 0), (86, .getfield 47, 89, 0, 4, 14), (89, .aload_n 0, 90, 0, 0, 0), (90, .getfield 26, 93, 0, 4, 7), (93, .iload_n 1, 94, 0, 1, 0), (94, .iaload, 95, 0, 0, 0), (95, .iload_n 3, 96, 0, 3, 0), (96, .iastore, 97, 0, 0, 0),
  (97, .return_, 98, 0, 0, 0)])
def m_Mod_enter : gM := (⟨"ExtentTreeModel", "enter", "(II)V"⟩, prog_6_method_11_code, 8, (none : Option FieldType), 3, 71, [], [
  (0, .aload_n 0, 1, 0, 0, 0), (1, .getfield 26, 4, 0, 4, 7), (4, .iload_n 1, 5, 0, 1, 0), (5, .iaload, 6, 0, 0, 0), (6, .istore_n 3, 7, 0, 3, 0), (7, .aload_n 0, 8, 0, 0, 0), (8, .iload_n 1, 9, 0, 1, 0), (9, .iload_n 2, 10, 0, 2, 0),
  (10, .ifCond .ge 7, 13, 0, 17, 0), (13, .iconst 0, 14, 0, 0, 0), (14, .goto 4, 17, 0, 18, 0), (17, .iload_n 2, 18, 0, 2, 0), (18, .invokevirtual 72, 21, 0, 27, 2), (21, .iconst 0, 22, 0, 0, 0), (22, .istore 4, 24, 0, 4, 0), (24, .iload 4, 26, 0, 4, 0),
  (26, .iload_n 3, 27, 0, 3, 0), (27, .if_icmp .gt 38, 30, 0, 65, 0), (30, .aload_n 0, 31, 0, 0, 0), (31, .getfield 47, 34, 0, 4, 14), (34, .iload 4, 36, 0, 4, 0), (36, .iload 4, 38, 0, 4, 0), (38, .ifCond .ne 11, 41, 0, 49, 0), (41, .iload_n 2, 42, 0, 2, 0),
  (42, .ifCond .ge 7, 45, 0, 49, 0), (45, .iconst 0, 46, 0, 0, 0), (46, .goto 12, 49, 0, 58, 0), (49, .aload_n 0, 50, 0, 0, 0), (50, .getfield 47, 53, 0, 4, 14), (53, .iload 4, 55, 0, 4, 0), (55, .iaload, 56, 0, 0, 0), (56, .iconst 1, 57, 1, 0, 0),
  (57, .iadd, 58, 0, 0, 0), (58, .iastore, 59, 0, 0, 0), (59, .iinc 4 1, 62, 1, 4, 0), (62, .goto (-38), 65, 0, 24, 0), (65, .iconst 0, 66, 0, 0, 0), (66, .istore 4, 68, 0, 4, 0), (68, .iload 4, 70, 0, 4, 0), (70, .iload_n 3, 71, 0, 3, 0),
  (71, .if_icmp .ge 39, 74, 0, 110, 0), (74, .aload_n 0, 75, 0, 0, 0), (75, .getfield 35, 78, 0, 4, 10), (78, .aload_n 0, 79, 0, 0, 0), (79, .getfield 44, 82, 0, 4, 13), (82, .iload 4, 84, 0, 4, 0), (84, .iaload, 85, 0, 0, 0), (85, .iaload, 86, 0, 0, 0),
  (86, .aload_n 0, 87, 0, 0, 0), (87, .getfield 53, 90, 0, 4, 1), (90, .if_icmp .ne 20, 93, 0, 110, 0), (93, .aload_n 0, 94, 0, 0, 0), (94, .getfield 50, 97, 0, 4, 15), (97, .iload 4, 99, 0, 4, 0), (99, .aload_n 0, 100, 0, 0, 0), (100, .invokevirtual 76, 103, 0, 20, 0),
  (103, .iastore, 104, 0, 0, 0), (104, .iinc 4 1, 107, 1, 4, 0), (107, .goto (-39), 110, 0, 68, 0), (110, .iload 4, 112, 0, 4, 0), (112, .iload_n 3, 113, 0, 3, 0), (113, .if_icmp .ge 22, 116, 0, 135, 0), (116, .aload_n 0, 117, 0, 0, 0), (117, .getfield 35, 120, 0, 4, 10),
  (120, .aload_n 0, 121, 0, 0, 0), (121, .getfield 44, 124, 0, 4, 13), (124, .iload 4, 126, 0, 4, 0), (126, .iaload, 127, 0, 0, 0), (127, .dup2, 128, 0, 0, 0), (128, .iaload, 129, 0, 0, 0), (129, .iconst 1, 130, 1, 0, 0), (130, .iadd, 131, 0, 0, 0),
  (131, .iastore, 132, 0, 0, 0), (132, .goto 59, 135, 0, 191, 0), (135, .aload_n 0, 136, 0, 0, 0), (136, .getfield 29, 139, 0, 4, 8), (139, .iload_n 1, 140, 0, 1, 0), (140, .iaload, 141, 0, 0, 0), (141, .iconst 4, 142, 4, 0, 0), (142, .if_icmp .ge 16, 145, 0, 158, 0),
  (145, .aload_n 0, 146, 0, 0, 0), (146, .getfield 29, 149, 0, 4, 8), (149, .iload_n 1, 150, 0, 1, 0), (150, .dup2, 151, 0, 0, 0), (151, .iaload, 152, 0, 0, 0), (152, .iconst 1, 153, 1, 0, 0), (153, .iadd, 154, 0, 0, 0), (154, .iastore, 155, 0, 0, 0),
  (155, .goto 36, 158, 0, 191, 0), (158, .aload_n 0, 159, 0, 0, 0), (159, .iload_n 1, 160, 0, 1, 0), (160, .iload_n 3, 161, 0, 3, 0), (161, .aload_n 0, 162, 0, 0, 0), (162, .iload_n 1, 163, 0, 1, 0), (163, .iload_n 3, 164, 0, 3, 0), (164, .invokevirtual 64, 167, 0, 23, 2),
  (167, .aload_n 0, 168, 0, 0, 0), (168, .invokevirtual 76, 171, 0, 20, 0), (171, .iconst 5, 172, 5, 0, 0), (172, .invokevirtual 79, 175, 0, 25, 5), (175, .aload_n 0, 176, 0, 0, 0), (176, .getfield 26, 179, 0, 4, 7), (179, .iload_n 1, 180, 0, 1, 0), (180, .iload_n 3, 181, 0, 3, 0),
  (181, .iconst 1, 182, 1, 0, 0), (182, .iadd, 183, 0, 0, 0), (183, .iastore, 184, 0, 0, 0), (184, .aload_n 0, 185, 0, 0, 0), (185, .getfield 29, 188, 0, 4, 8), (188, .iload_n 1, 189, 0, 1, 0), (189, .iconst 1, 190, 1, 0, 0), (190, .iastore, 191, 0, 0, 0),
  (191, .iload 4, 193, 0, 4, 0), (193, .iconst 1, 194, 1, 0, 0), (194, .isub, 195, 0, 0, 0), (195, .istore 5, 197, 0, 5, 0), (197, .iload 5, 199, 0, 5, 0), (199, .ifCond .lt 104, 202, 0, 303, 0), (202, .aload_n 0, 203, 0, 0, 0), (203, .getfield 53, 206, 0, 4, 1),
  (206, .iconst 1, 207, 1, 0, 0), (207, .iadd, 208, 0, 0, 0), (208, .iconst 2, 209, 2, 0, 0), (209, .idiv, 210, 0, 0, 0), (210, .istore 6, 212, 0, 6, 0), (212, .aload_n 0, 213, 0, 0, 0), (213, .getfield 47, 216, 0, 4, 14), (216, .iload 5, 218, 0, 5, 0),
  (218, .iaload, 219, 0, 0, 0), (219, .iload 6, 221, 0, 6, 0), (221, .if_icmp .gt 7, 224, 0, 228, 0), (224, .iconst 1, 225, 1, 0, 0), (225, .goto 4, 228, 0, 229, 0), (228, .iconst 0, 229, 0, 0, 0), (229, .istore 7, 231, 0, 7, 0), (231, .aload_n 0, 232, 0, 0, 0),
  (232, .getfield 35, 235, 0, 4, 10), (235, .aload_n 0, 236, 0, 0, 0), (236, .getfield 44, 239, 0, 4, 13), (239, .iload 5, 241, 0, 5, 0), (241, .iaload, 242, 0, 0, 0), (242, .iload 6, 244, 0, 6, 0), (244, .iload 7, 246, 0, 7, 0), (246, .ifCond .eq 7, 249, 0, 253, 0),
  (249, .iconst 1, 250, 1, 0, 0), (250, .goto 4, 253, 0, 254, 0), (253, .iconst 0, 254, 0, 0, 0), (254, .iadd, 255, 0, 0, 0), (255, .iastore, 256, 0, 0, 0), (256, .aload_n 0, 257, 0, 0, 0), (257, .iload_n 1, 258, 0, 1, 0), (258, .iload 5, 260, 0, 5, 0),
  (260, .aload_n 0, 261, 0, 0, 0), (261, .getfield 44, 264, 0, 4, 13), (264, .iload 5, 266, 0, 5, 0), (266, .iaload, 267, 0, 0, 0), (267, .iconst 1, 268, 1, 0, 0), (268, .iadd, 269, 0, 0, 0), (269, .aload_n 0, 270, 0, 0, 0), (270, .getfield 50, 273, 0, 4, 15),
  (273, .iload 5, 275, 0, 5, 0), (275, .iaload, 276, 0, 0, 0), (276, .aload_n 0, 277, 0, 0, 0), (277, .getfield 53, 280, 0, 4, 1), (280, .iload 6, 282, 0, 6, 0), (282, .isub, 283, 0, 0, 0), (283, .iload 7, 285, 0, 7, 0), (285, .ifCond .eq 7, 288, 0, 292, 0),
  (288, .iconst 0, 289, 0, 0, 0), (289, .goto 4, 292, 0, 293, 0), (292, .iconst 1, 293, 1, 0, 0), (293, .iadd, 294, 0, 0, 0), (294, .invokevirtual 79, 297, 0, 25, 5), (297, .iinc 5 (-1), 300, (-1), 5, 0), (300, .goto (-103), 303, 0, 197, 0), (303, .return_, 304, 0, 0, 0)])
def m_Mod_leave : gM := (⟨"ExtentTreeModel", "leave", "(II)V"⟩, prog_6_method_12_code, 6, (none : Option FieldType), 3, 70, [], [
  (0, .aload_n 0, 1, 0, 0, 0), (1, .iload_n 1, 2, 0, 1, 0), (2, .iload_n 2, 3, 0, 2, 0), (3, .invokevirtual 72, 6, 0, 27, 2), (6, .aload_n 0, 7, 0, 0, 0), (7, .getfield 26, 10, 0, 4, 7), (10, .iload_n 1, 11, 0, 1, 0), (11, .iaload, 12, 0, 0, 0),
  (12, .istore_n 3, 13, 0, 3, 0), (13, .iconst 1, 14, 1, 0, 0), (14, .istore 4, 16, 0, 4, 0), (16, .iconst 0, 17, 0, 0, 0), (17, .istore 5, 19, 0, 5, 0), (19, .iload 5, 21, 0, 5, 0), (21, .iload_n 3, 22, 0, 3, 0), (22, .if_icmp .ge 71, 25, 0, 93, 0),
  (25, .iload 4, 27, 0, 4, 0), (27, .ifCond .eq 66, 30, 0, 93, 0), (30, .aload_n 0, 31, 0, 0, 0), (31, .getfield 35, 34, 0, 4, 10), (34, .aload_n 0, 35, 0, 0, 0), (35, .getfield 44, 38, 0, 4, 13), (38, .iload 5, 40, 0, 5, 0), (40, .iaload, 41, 0, 0, 0),
  (41, .dup2, 42, 0, 0, 0), (42, .iaload, 43, 0, 0, 0), (43, .iconst 1, 44, 1, 0, 0), (44, .isub, 45, 0, 0, 0), (45, .iastore, 46, 0, 0, 0), (46, .aload_n 0, 47, 0, 0, 0), (47, .getfield 35, 50, 0, 4, 10), (50, .aload_n 0, 51, 0, 0, 0),
  (51, .getfield 44, 54, 0, 4, 13), (54, .iload 5, 56, 0, 5, 0), (56, .iaload, 57, 0, 0, 0), (57, .iaload, 58, 0, 0, 0), (58, .ifCond .ne 7, 61, 0, 65, 0), (61, .iconst 1, 62, 1, 0, 0), (62, .goto 4, 65, 0, 66, 0), (65, .iconst 0, 66, 0, 0, 0),
  (66, .istore 4, 68, 0, 4, 0), (68, .iload 4, 70, 0, 4, 0), (70, .ifCond .eq 17, 73, 0, 87, 0), (73, .aload_n 0, 74, 0, 0, 0), (74, .iload_n 1, 75, 0, 1, 0), (75, .iload 5, 77, 0, 5, 0), (77, .aload_n 0, 78, 0, 0, 0), (78, .getfield 44, 81, 0, 4, 13),
  (81, .iload 5, 83, 0, 5, 0), (83, .iaload, 84, 0, 0, 0), (84, .invokevirtual 83, 87, 0, 26, 3), (87, .iinc 5 1, 90, 1, 5, 0), (90, .goto (-71), 93, 0, 19, 0), (93, .aload_n 0, 94, 0, 0, 0), (94, .getfield 29, 97, 0, 4, 8), (97, .iload_n 1, 98, 0, 1, 0),
  (98, .dup2, 99, 0, 0, 0), (99, .iaload, 100, 0, 0, 0), (100, .iload 4, 102, 0, 4, 0), (102, .ifCond .eq 7, 105, 0, 109, 0), (105, .iconst 1, 106, 1, 0, 0), (106, .goto 4, 109, 0, 110, 0), (109, .iconst 0, 110, 0, 0, 0), (110, .isub, 111, 0, 0, 0),
  (111, .iastore, 112, 0, 0, 0), (112, .aload_n 0, 113, 0, 0, 0), (113, .getfield 26, 116, 0, 4, 7), (116, .iload_n 1, 117, 0, 1, 0), (117, .aload_n 0, 118, 0, 0, 0), (118, .getfield 29, 121, 0, 4, 8), (121, .iload_n 1, 122, 0, 1, 0), (122, .iaload, 123, 0, 0, 0),
  (123, .ifCond .ne 7, 126, 0, 130, 0), (126, .iconst 0, 127, 0, 0, 0), (127, .goto 4, 130, 0, 131, 0), (130, .iload_n 3, 131, 0, 3, 0), (131, .iastore, 132, 0, 0, 0), (132, .return_, 133, 0, 0, 0)])
def m_Mod_shrink : gM := (⟨"ExtentTreeModel", "shrink", "(I)V"⟩, prog_6_method_13_code, 4, (none : Option FieldType), 3, 70, [], [
  (0, .aload_n 0, 1, 0, 0, 0), (1, .getfield 26, 4, 0, 4, 7), (4, .iload_n 1, 5, 0, 1, 0), (5, .iaload, 6, 0, 0, 0), (6, .ifCond .le 7, 9, 0, 13, 0), (9, .iconst 1, 10, 1, 0, 0), (10, .goto 4, 13, 0, 14, 0), (13, .iconst 0, 14, 0, 0, 0),
  (14, .istore_n 2, 15, 0, 2, 0), (15, .iload_n 2, 16, 0, 2, 0), (16, .ifCond .eq 99, 19, 0, 115, 0), (19, .aload_n 0, 20, 0, 0, 0), (20, .iload_n 1, 21, 0, 1, 0), (21, .aload_n 0, 22, 0, 0, 0), (22, .getfield 26, 25, 0, 4, 7), (25, .iload_n 1, 26, 0, 1, 0),
  (26, .iaload, 27, 0, 0, 0), (27, .iconst 1, 28, 1, 0, 0), (28, .isub, 29, 0, 0, 0), (29, .invokevirtual 64, 32, 0, 23, 2), (32, .istore_n 3, 33, 0, 3, 0), (33, .aload_n 0, 34, 0, 0, 0), (34, .getfield 29, 37, 0, 4, 8), (37, .iload_n 1, 38, 0, 1, 0),
  (38, .iaload, 39, 0, 0, 0), (39, .iconst 1, 40, 1, 0, 0), (40, .if_icmp .ne 17, 43, 0, 57, 0), (43, .aload_n 0, 44, 0, 0, 0), (44, .getfield 35, 47, 0, 4, 10), (47, .iload_n 3, 48, 0, 3, 0), (48, .iaload, 49, 0, 0, 0), (49, .iconst 4, 50, 4, 0, 0),
  (50, .if_icmp .gt 7, 53, 0, 57, 0), (53, .iconst 1, 54, 1, 0, 0), (54, .goto 4, 57, 0, 58, 0), (57, .iconst 0, 58, 0, 0, 0), (58, .istore_n 2, 59, 0, 2, 0), (59, .iload_n 2, 60, 0, 2, 0), (60, .ifCond .eq 52, 63, 0, 112, 0), (63, .aload_n 0, 64, 0, 0, 0),
  (64, .getfield 29, 67, 0, 4, 8), (67, .iload_n 1, 68, 0, 1, 0), (68, .aload_n 0, 69, 0, 0, 0), (69, .getfield 35, 72, 0, 4, 10), (72, .iload_n 3, 73, 0, 3, 0), (73, .iaload, 74, 0, 0, 0), (74, .iastore, 75, 0, 0, 0), (75, .aload_n 0, 76, 0, 0, 0),
  (76, .getfield 26, 79, 0, 4, 7), (79, .iload_n 1, 80, 0, 1, 0), (80, .dup2, 81, 0, 0, 0), (81, .iaload, 82, 0, 0, 0), (82, .iconst 1, 83, 1, 0, 0), (83, .isub, 84, 0, 0, 0), (84, .iastore, 85, 0, 0, 0), (85, .aload_n 0, 86, 0, 0, 0),
  (86, .iload_n 1, 87, 0, 1, 0), (87, .aload_n 0, 88, 0, 0, 0), (88, .getfield 26, 91, 0, 4, 7), (91, .iload_n 1, 92, 0, 1, 0), (92, .iaload, 93, 0, 0, 0), (93, .iload_n 3, 94, 0, 3, 0), (94, .invokevirtual 83, 97, 0, 26, 3), (97, .aload_n 0, 98, 0, 0, 0),
  (98, .getfield 26, 101, 0, 4, 7), (101, .iload_n 1, 102, 0, 1, 0), (102, .iaload, 103, 0, 0, 0), (103, .ifCond .le 7, 106, 0, 110, 0), (106, .iconst 1, 107, 1, 0, 0), (107, .goto 4, 110, 0, 111, 0), (110, .iconst 0, 111, 0, 0, 0), (111, .istore_n 2, 112, 0, 2, 0),
  (112, .goto (-97), 115, 0, 15, 0), (115, .return_, 116, 0, 0, 0)])
def m_Mod_runs : gM := (⟨"ExtentTreeModel", "runs", "(I)I"⟩, prog_6_method_14_code, 2, (Option.some FieldType.int), 0, 0, [], [
  (0, .aload_n 0, 1, 0, 0, 0), (1, .getfield 7, 4, 0, 4, 2), (4, .iload_n 1, 5, 0, 1, 0), (5, .iconst 1, 6, 1, 0, 0), (6, .iadd, 7, 0, 0, 0), (7, .iaload, 8, 0, 0, 0), (8, .aload_n 0, 9, 0, 0, 0), (9, .getfield 7, 12, 0, 4, 2),
  (12, .iload_n 1, 13, 0, 1, 0), (13, .iaload, 14, 0, 0, 0), (14, .isub, 15, 0, 0, 0), (15, .ireturn, 16, 0, 0, 0)])
def m_Mod_insertRun : gM := (⟨"ExtentTreeModel", "insertRun", "(IIIIIZ)V"⟩, prog_6_method_15_code, 8, (none : Option FieldType), 2, 49, [], [
  (0, .aload_n 0, 1, 0, 0, 0), (1, .iload_n 2, 2, 0, 2, 0), (2, .iload_n 2, 3, 0, 2, 0), (3, .iconst 1, 4, 1, 0, 0), (4, .iadd, 5, 0, 0, 0), (5, .invokevirtual 87, 8, 0, 34, 2), (8, .aload_n 0, 9, 0, 0, 0), (9, .getfield 13, 12, 0, 4, 3),
  (12, .iload_n 2, 13, 0, 2, 0), (13, .iload_n 3, 14, 0, 3, 0), (14, .iastore, 15, 0, 0, 0), (15, .aload_n 0, 16, 0, 0, 0), (16, .getfield 16, 19, 0, 4, 4), (19, .iload_n 2, 20, 0, 2, 0), (20, .iload 4, 22, 0, 4, 0), (22, .iastore, 23, 0, 0, 0),
  (23, .aload_n 0, 24, 0, 0, 0), (24, .getfield 19, 27, 0, 4, 5), (27, .iload_n 2, 28, 0, 2, 0), (28, .iload 5, 30, 0, 5, 0), (30, .iastore, 31, 0, 0, 0), (31, .aload_n 0, 32, 0, 0, 0), (32, .getfield 22, 35, 0, 4, 6), (35, .iload_n 2, 36, 0, 2, 0),
  (36, .iload 6, 38, 0, 6, 0), (38, .bastore, 39, 0, 0, 0), (39, .iload_n 1, 40, 0, 1, 0), (40, .iconst 1, 41, 1, 0, 0), (41, .iadd, 42, 0, 0, 0), (42, .istore 7, 44, 0, 7, 0), (44, .iload 7, 46, 0, 7, 0), (46, .iconst 5, 47, 5, 0, 0),
  (47, .if_icmp .ge 20, 50, 0, 67, 0), (50, .aload_n 0, 51, 0, 0, 0), (51, .getfield 7, 54, 0, 4, 2), (54, .iload 7, 56, 0, 7, 0), (56, .dup2, 57, 0, 0, 0), (57, .iaload, 58, 0, 0, 0), (58, .iconst 1, 59, 1, 0, 0), (59, .iadd, 60, 0, 0, 0),
  (60, .iastore, 61, 0, 0, 0), (61, .iinc 7 1, 64, 1, 7, 0), (64, .goto (-20), 67, 0, 44, 0), (67, .return_, 68, 0, 0, 0)])
def m_Mod_removeRun : gM := (⟨"ExtentTreeModel", "removeRun", "(II)V"⟩, prog_6_method_16_code, 4, (none : Option FieldType), 2, 49, [], [
  (0, .aload_n 0, 1, 0, 0, 0), (1, .iload_n 2, 2, 0, 2, 0), (2, .iconst 1, 3, 1, 0, 0), (3, .iadd, 4, 0, 0, 0), (4, .iload_n 2, 5, 0, 2, 0), (5, .invokevirtual 87, 8, 0, 34, 2), (8, .iload_n 1, 9, 0, 1, 0), (9, .iconst 1, 10, 1, 0, 0),
  (10, .iadd, 11, 0, 0, 0), (11, .istore_n 3, 12, 0, 3, 0), (12, .iload_n 3, 13, 0, 3, 0), (13, .iconst 5, 14, 5, 0, 0), (14, .if_icmp .ge 19, 17, 0, 33, 0), (17, .aload_n 0, 18, 0, 0, 0), (18, .getfield 7, 21, 0, 4, 2), (21, .iload_n 3, 22, 0, 3, 0),
  (22, .dup2, 23, 0, 0, 0), (23, .iaload, 24, 0, 0, 0), (24, .iconst 1, 25, 1, 0, 0), (25, .isub, 26, 0, 0, 0), (26, .iastore, 27, 0, 0, 0), (27, .iinc 3 1, 30, 1, 3, 0), (30, .goto (-18), 33, 0, 12, 0), (33, .return_, 34, 0, 0, 0)])
def m_Mod_shift : gM := (⟨"ExtentTreeModel", "shift", "(II)V"⟩, prog_6_method_17_code, 4, (none : Option FieldType), 1, 26, [], [
  (0, .aload_n 0, 1, 0, 0, 0), (1, .getfield 7, 4, 0, 4, 2), (4, .iconst 4, 5, 4, 0, 0), (5, .iaload, 6, 0, 0, 0), (6, .iload_n 1, 7, 0, 1, 0), (7, .isub, 8, 0, 0, 0), (8, .istore_n 3, 9, 0, 3, 0), (9, .aload_n 0, 10, 0, 0, 0),
  (10, .getfield 13, 13, 0, 4, 3), (13, .iload_n 1, 14, 0, 1, 0), (14, .aload_n 0, 15, 0, 0, 0), (15, .getfield 13, 18, 0, 4, 3), (18, .iload_n 2, 19, 0, 2, 0), (19, .iload_n 3, 20, 0, 3, 0), (20, .invokestatic 90, 23, 3, 0, 0), (23, .aload_n 0, 24, 0, 0, 0),
  (24, .getfield 16, 27, 0, 4, 4), (27, .iload_n 1, 28, 0, 1, 0), (28, .aload_n 0, 29, 0, 0, 0), (29, .getfield 16, 32, 0, 4, 4), (32, .iload_n 2, 33, 0, 2, 0), (33, .iload_n 3, 34, 0, 3, 0), (34, .invokestatic 90, 37, 3, 0, 0), (37, .aload_n 0, 38, 0, 0, 0),
  (38, .getfield 19, 41, 0, 4, 5), (41, .iload_n 1, 42, 0, 1, 0), (42, .aload_n 0, 43, 0, 0, 0), (43, .getfield 19, 46, 0, 4, 5), (46, .iload_n 2, 47, 0, 2, 0), (47, .iload_n 3, 48, 0, 3, 0), (48, .invokestatic 90, 51, 3, 0, 0), (51, .aload_n 0, 52, 0, 0, 0),
  (52, .getfield 22, 55, 0, 4, 6), (55, .iload_n 1, 56, 0, 1, 0), (56, .aload_n 0, 57, 0, 0, 0), (57, .getfield 22, 60, 0, 4, 6), (60, .iload_n 2, 61, 0, 2, 0), (61, .iload_n 3, 62, 0, 3, 0), (62, .invokestatic 90, 65, 3, 0, 0), (65, .return_, 66, 0, 0, 0)])
def m_Mod_behind : gM := (⟨"ExtentTreeModel", "behind", "(II)I"⟩, prog_6_method_18_code, 6, (Option.some FieldType.int), 0, 0, [], [
  (0, .aload_n 0, 1, 0, 0, 0), (1, .getfield 7, 4, 0, 4, 2), (4, .iload_n 1, 5, 0, 1, 0), (5, .iaload, 6, 0, 0, 0), (6, .istore_n 3, 7, 0, 3, 0), (7, .aload_n 0, 8, 0, 0, 0), (8, .getfield 7, 11, 0, 4, 2), (11, .iload_n 1, 12, 0, 1, 0),
  (12, .iconst 1, 13, 1, 0, 0), (13, .iadd, 14, 0, 0, 0), (14, .iaload, 15, 0, 0, 0), (15, .istore 4, 17, 0, 4, 0), (17, .iload_n 3, 18, 0, 3, 0), (18, .iload 4, 20, 0, 4, 0), (20, .if_icmp .ge 45, 23, 0, 65, 0), (23, .iload_n 3, 24, 0, 3, 0),
  (24, .iload 4, 26, 0, 4, 0), (26, .iadd, 27, 0, 0, 0), (27, .iconst 2, 28, 2, 0, 0), (28, .idiv, 29, 0, 0, 0), (29, .istore 5, 31, 0, 5, 0), (31, .aload_n 0, 32, 0, 0, 0), (32, .getfield 13, 35, 0, 4, 3), (35, .iload 5, 37, 0, 5, 0),
  (37, .iaload, 38, 0, 0, 0), (38, .aload_n 0, 39, 0, 0, 0), (39, .getfield 16, 42, 0, 4, 4), (42, .iload 5, 44, 0, 5, 0), (44, .iaload, 45, 0, 0, 0), (45, .iadd, 46, 0, 0, 0), (46, .iload_n 2, 47, 0, 2, 0), (47, .if_icmp .gt 11, 50, 0, 58, 0),
  (50, .iload 5, 52, 0, 5, 0), (52, .iconst 1, 53, 1, 0, 0), (53, .iadd, 54, 0, 0, 0), (54, .istore_n 3, 55, 0, 3, 0), (55, .goto 7, 58, 0, 62, 0), (58, .iload 5, 60, 0, 5, 0), (60, .istore 4, 62, 0, 4, 0), (62, .goto (-45), 65, 0, 17, 0),
  (65, .iload_n 3, 66, 0, 3, 0), (66, .ireturn, 67, 0, 0, 0)])
def m_Mod_joins : gM := (⟨"ExtentTreeModel", "joins", "(IIIZIIIZ)Z"⟩, prog_6_method_19_code, 9, (Option.some FieldType.boolean), 0, 0, [], [
  (0, .iload_n 1, 1, 0, 1, 0), (1, .iload_n 2, 2, 0, 2, 0), (2, .iadd, 3, 0, 0, 0), (3, .iload 5, 5, 0, 5, 0), (5, .if_icmp .ne 42, 8, 0, 47, 0), (8, .iload_n 3, 9, 0, 3, 0), (9, .iload_n 2, 10, 0, 2, 0), (10, .iadd, 11, 0, 0, 0),
  (11, .iload 7, 13, 0, 7, 0), (13, .if_icmp .ne 34, 16, 0, 47, 0), (16, .iload 4, 18, 0, 4, 0), (18, .iload 8, 20, 0, 8, 0), (20, .if_icmp .ne 27, 23, 0, 47, 0), (23, .iload_n 2, 24, 0, 2, 0), (24, .iload 6, 26, 0, 6, 0), (26, .iadd, 27, 0, 0, 0),
  (27, .iload 4, 29, 0, 4, 0), (29, .ifCond .eq 8, 32, 0, 37, 0), (32, .ldc 96, 34, 32768, 0, 0), (34, .goto 6, 37, 0, 40, 0), (37, .sipush 32767, 40, 32767, 0, 0), (40, .if_icmp .gt 7, 43, 0, 47, 0), (43, .iconst 1, 44, 1, 0, 0), (44, .goto 4, 47, 0, 48, 0),
  (47, .iconst 0, 48, 0, 0, 0), (48, .ireturn, 49, 0, 0, 0)])
def m_Mod_enterRun : gM := (⟨"ExtentTreeModel", "enterRun", "(IIIIZ)V"⟩, prog_6_method_20_code, 12, (none : Option FieldType), 4, 98, [], [
  (0, .aload_n 0, 1, 0, 0, 0), (1, .iload_n 1, 2, 0, 1, 0), (2, .iload_n 2, 3, 0, 2, 0), (3, .invokevirtual 97, 6, 0, 35, 2), (6, .istore 6, 8, 0, 6, 0), (8, .iload 6, 10, 0, 6, 0), (10, .aload_n 0, 11, 0, 0, 0), (11, .getfield 7, 14, 0, 4, 2),
  (14, .iload_n 1, 15, 0, 1, 0), (15, .iaload, 16, 0, 0, 0), (16, .if_icmp .le 56, 19, 0, 72, 0), (19, .aload_n 0, 20, 0, 0, 0), (20, .aload_n 0, 21, 0, 0, 0), (21, .getfield 13, 24, 0, 4, 3), (24, .iload 6, 26, 0, 6, 0), (26, .iconst 1, 27, 1, 0, 0),
  (27, .isub, 28, 0, 0, 0), (28, .iaload, 29, 0, 0, 0), (29, .aload_n 0, 30, 0, 0, 0), (30, .getfield 16, 33, 0, 4, 4), (33, .iload 6, 35, 0, 6, 0), (35, .iconst 1, 36, 1, 0, 0), (36, .isub, 37, 0, 0, 0), (37, .iaload, 38, 0, 0, 0),
  (38, .aload_n 0, 39, 0, 0, 0), (39, .getfield 19, 42, 0, 4, 5), (42, .iload 6, 44, 0, 6, 0), (44, .iconst 1, 45, 1, 0, 0), (45, .isub, 46, 0, 0, 0), (46, .iaload, 47, 0, 0, 0), (47, .aload_n 0, 48, 0, 0, 0), (48, .getfield 22, 51, 0, 4, 6),
  (51, .iload 6, 53, 0, 6, 0), (53, .iconst 1, 54, 1, 0, 0), (54, .isub, 55, 0, 0, 0), (55, .baload, 56, 0, 0, 0), (56, .iload_n 2, 57, 0, 2, 0), (57, .iload_n 3, 58, 0, 3, 0), (58, .iload 4, 60, 0, 4, 0), (60, .iload 5, 62, 0, 5, 0),
  (62, .invokevirtual 100, 65, 0, 36, 8), (65, .ifCond .eq 7, 68, 0, 72, 0), (68, .iconst 1, 69, 1, 0, 0), (69, .goto 4, 72, 0, 73, 0), (72, .iconst 0, 73, 0, 0, 0), (73, .istore 7, 75, 0, 7, 0), (75, .iload 7, 77, 0, 7, 0), (77, .ifCond .eq 15, 80, 0, 92, 0),
  (80, .aload_n 0, 81, 0, 0, 0), (81, .getfield 13, 84, 0, 4, 3), (84, .iload 6, 86, 0, 6, 0), (86, .iconst 1, 87, 1, 0, 0), (87, .isub, 88, 0, 0, 0), (88, .iaload, 89, 0, 0, 0), (89, .goto 4, 92, 0, 93, 0), (92, .iload_n 2, 93, 0, 2, 0),
  (93, .istore 8, 95, 0, 8, 0), (95, .iload 7, 97, 0, 7, 0), (97, .ifCond .eq 15, 100, 0, 112, 0), (100, .aload_n 0, 101, 0, 0, 0), (101, .getfield 19, 104, 0, 4, 5), (104, .iload 6, 106, 0, 6, 0), (106, .iconst 1, 107, 1, 0, 0), (107, .isub, 108, 0, 0, 0),
  (108, .iaload, 109, 0, 0, 0), (109, .goto 5, 112, 0, 114, 0), (112, .iload 4, 114, 0, 4, 0), (114, .istore 9, 116, 0, 9, 0), (116, .iload 7, 118, 0, 7, 0), (118, .ifCond .eq 17, 121, 0, 135, 0), (121, .aload_n 0, 122, 0, 0, 0), (122, .getfield 16, 125, 0, 4, 4),
  (125, .iload 6, 127, 0, 6, 0), (127, .iconst 1, 128, 1, 0, 0), (128, .isub, 129, 0, 0, 0), (129, .iaload, 130, 0, 0, 0), (130, .iload_n 3, 131, 0, 3, 0), (131, .iadd, 132, 0, 0, 0), (132, .goto 4, 135, 0, 136, 0), (135, .iload_n 3, 136, 0, 3, 0),
  (136, .istore 10, 138, 0, 10, 0), (138, .iload 6, 140, 0, 6, 0), (140, .aload_n 0, 141, 0, 0, 0), (141, .getfield 7, 144, 0, 4, 2), (144, .iload_n 1, 145, 0, 1, 0), (145, .iconst 1, 146, 1, 0, 0), (146, .iadd, 147, 0, 0, 0), (147, .iaload, 148, 0, 0, 0),
  (148, .if_icmp .ge 50, 151, 0, 198, 0), (151, .aload_n 0, 152, 0, 0, 0), (152, .iload 8, 154, 0, 8, 0), (154, .iload 10, 156, 0, 10, 0), (156, .iload 9, 158, 0, 9, 0), (158, .iload 5, 160, 0, 5, 0), (160, .aload_n 0, 161, 0, 0, 0), (161, .getfield 13, 164, 0, 4, 3),
  (164, .iload 6, 166, 0, 6, 0), (166, .iaload, 167, 0, 0, 0), (167, .aload_n 0, 168, 0, 0, 0), (168, .getfield 16, 171, 0, 4, 4), (171, .iload 6, 173, 0, 6, 0), (173, .iaload, 174, 0, 0, 0), (174, .aload_n 0, 175, 0, 0, 0), (175, .getfield 19, 178, 0, 4, 5),
  (178, .iload 6, 180, 0, 6, 0), (180, .iaload, 181, 0, 0, 0), (181, .aload_n 0, 182, 0, 0, 0), (182, .getfield 22, 185, 0, 4, 6), (185, .iload 6, 187, 0, 6, 0), (187, .baload, 188, 0, 0, 0), (188, .invokevirtual 100, 191, 0, 36, 8), (191, .ifCond .eq 7, 194, 0, 198, 0),
  (194, .iconst 1, 195, 1, 0, 0), (195, .goto 4, 198, 0, 199, 0), (198, .iconst 0, 199, 0, 0, 0), (199, .istore 11, 201, 0, 11, 0), (201, .iload 7, 203, 0, 7, 0), (203, .ifCond .eq 60, 206, 0, 263, 0), (206, .aload_n 0, 207, 0, 0, 0), (207, .getfield 16, 210, 0, 4, 4),
  (210, .iload 6, 212, 0, 6, 0), (212, .iconst 1, 213, 1, 0, 0), (213, .isub, 214, 0, 0, 0), (214, .iload 10, 216, 0, 10, 0), (216, .iload 11, 218, 0, 11, 0), (218, .ifCond .eq 13, 221, 0, 231, 0), (221, .aload_n 0, 222, 0, 0, 0), (222, .getfield 16, 225, 0, 4, 4),
  (225, .iload 6, 227, 0, 6, 0), (227, .iaload, 228, 0, 0, 0), (228, .goto 4, 231, 0, 232, 0), (231, .iconst 0, 232, 0, 0, 0), (232, .iadd, 233, 0, 0, 0), (233, .iastore, 234, 0, 0, 0), (234, .iload 11, 236, 0, 11, 0), (236, .ifCond .eq 99, 239, 0, 335, 0),
  (239, .aload_n 0, 240, 0, 0, 0), (240, .iload_n 1, 241, 0, 1, 0), (241, .iload 6, 243, 0, 6, 0), (243, .aload_n 0, 244, 0, 0, 0), (244, .getfield 7, 247, 0, 4, 2), (247, .iload_n 1, 248, 0, 1, 0), (248, .iaload, 249, 0, 0, 0), (249, .isub, 250, 0, 0, 0),
  (250, .invokevirtual 104, 253, 0, 29, 2), (253, .aload_n 0, 254, 0, 0, 0), (254, .iload_n 1, 255, 0, 1, 0), (255, .iload 6, 257, 0, 6, 0), (257, .invokevirtual 107, 260, 0, 33, 2), (260, .goto 75, 263, 0, 335, 0), (263, .iload 11, 265, 0, 11, 0), (265, .ifCond .eq 41, 268, 0, 306, 0),
  (268, .aload_n 0, 269, 0, 0, 0), (269, .getfield 13, 272, 0, 4, 3), (272, .iload 6, 274, 0, 6, 0), (274, .iload 8, 276, 0, 8, 0), (276, .iastore, 277, 0, 0, 0), (277, .aload_n 0, 278, 0, 0, 0), (278, .getfield 19, 281, 0, 4, 5), (281, .iload 6, 283, 0, 6, 0),
  (283, .iload 9, 285, 0, 9, 0), (285, .iastore, 286, 0, 0, 0), (286, .aload_n 0, 287, 0, 0, 0), (287, .getfield 16, 290, 0, 4, 4), (290, .iload 6, 292, 0, 6, 0), (292, .iload 10, 294, 0, 10, 0), (294, .aload_n 0, 295, 0, 0, 0), (295, .getfield 16, 298, 0, 4, 4),
  (298, .iload 6, 300, 0, 6, 0), (300, .iaload, 301, 0, 0, 0), (301, .iadd, 302, 0, 0, 0), (302, .iastore, 303, 0, 0, 0), (303, .goto 32, 306, 0, 335, 0), (306, .aload_n 0, 307, 0, 0, 0), (307, .iload_n 1, 308, 0, 1, 0), (308, .iload 6, 310, 0, 6, 0),
  (310, .aload_n 0, 311, 0, 0, 0), (311, .getfield 7, 314, 0, 4, 2), (314, .iload_n 1, 315, 0, 1, 0), (315, .iaload, 316, 0, 0, 0), (316, .isub, 317, 0, 0, 0), (317, .iconst 1, 318, 1, 0, 0), (318, .isub, 319, 0, 0, 0), (319, .invokevirtual 110, 322, 0, 28, 2),
  (322, .aload_n 0, 323, 0, 0, 0), (323, .iload_n 1, 324, 0, 1, 0), (324, .iload 6, 326, 0, 6, 0), (326, .iload_n 2, 327, 0, 2, 0), (327, .iload_n 3, 328, 0, 3, 0), (328, .iload 4, 330, 0, 4, 0), (330, .iload 5, 332, 0, 5, 0), (332, .invokevirtual 113, 335, 0, 32, 6),
  (335, .return_, 336, 0, 0, 0)])
def m_Mod_takeOut : gM := (⟨"ExtentTreeModel", "takeOut", "(III)I"⟩, prog_6_method_21_code, 11, (Option.some FieldType.int), 4, 98, [], [
  (0, .iload_n 2, 1, 0, 2, 0), (1, .iload_n 3, 2, 0, 3, 0), (2, .iadd, 3, 0, 0, 0), (3, .istore 4, 5, 0, 4, 0), (5, .iconst 0, 6, 0, 0, 0), (6, .istore 5, 8, 0, 5, 0), (8, .aload_n 0, 9, 0, 0, 0), (9, .iload_n 1, 10, 0, 1, 0),
  (10, .iload_n 2, 11, 0, 2, 0), (11, .invokevirtual 97, 14, 0, 35, 2), (14, .istore 6, 16, 0, 6, 0), (16, .iload 6, 18, 0, 6, 0), (18, .aload_n 0, 19, 0, 0, 0), (19, .getfield 7, 22, 0, 4, 2), (22, .iload_n 1, 23, 0, 1, 0), (23, .iconst 1, 24, 1, 0, 0),
  (24, .iadd, 25, 0, 0, 0), (25, .iaload, 26, 0, 0, 0), (26, .if_icmp .ge 291, 29, 0, 317, 0), (29, .aload_n 0, 30, 0, 0, 0), (30, .getfield 13, 33, 0, 4, 3), (33, .iload 6, 35, 0, 6, 0), (35, .iaload, 36, 0, 0, 0), (36, .iload 4, 38, 0, 4, 0),
  (38, .if_icmp .ge 279, 41, 0, 317, 0), (41, .aload_n 0, 42, 0, 0, 0), (42, .getfield 13, 45, 0, 4, 3), (45, .iload 6, 47, 0, 6, 0), (47, .iaload, 48, 0, 0, 0), (48, .iload_n 2, 49, 0, 2, 0), (49, .if_icmp .ge 7, 52, 0, 56, 0), (52, .iload_n 2, 53, 0, 2, 0),
  (53, .goto 10, 56, 0, 63, 0), (56, .aload_n 0, 57, 0, 0, 0), (57, .getfield 13, 60, 0, 4, 3), (60, .iload 6, 62, 0, 6, 0), (62, .iaload, 63, 0, 0, 0), (63, .istore 7, 65, 0, 7, 0), (65, .aload_n 0, 66, 0, 0, 0), (66, .getfield 13, 69, 0, 4, 3),
  (69, .iload 6, 71, 0, 6, 0), (71, .iaload, 72, 0, 0, 0), (72, .aload_n 0, 73, 0, 0, 0), (73, .getfield 16, 76, 0, 4, 4), (76, .iload 6, 78, 0, 6, 0), (78, .iaload, 79, 0, 0, 0), (79, .iadd, 80, 0, 0, 0), (80, .istore 8, 82, 0, 8, 0),
  (82, .iload 8, 84, 0, 8, 0), (84, .iload 4, 86, 0, 4, 0), (86, .if_icmp .ge 8, 89, 0, 94, 0), (89, .iload 8, 91, 0, 8, 0), (91, .goto 5, 94, 0, 96, 0), (94, .iload 4, 96, 0, 4, 0), (96, .istore 9, 98, 0, 9, 0), (98, .iload 5, 100, 0, 5, 0),
  (100, .iload 9, 102, 0, 9, 0), (102, .iload 7, 104, 0, 7, 0), (104, .isub, 105, 0, 0, 0), (105, .iadd, 106, 0, 0, 0), (106, .istore 5, 108, 0, 5, 0), (108, .iload 7, 110, 0, 7, 0), (110, .aload_n 0, 111, 0, 0, 0), (111, .getfield 13, 114, 0, 4, 3),
  (114, .iload 6, 116, 0, 6, 0), (116, .iaload, 117, 0, 0, 0), (117, .if_icmp .le 87, 120, 0, 204, 0), (120, .iload 9, 122, 0, 9, 0), (122, .iload 8, 124, 0, 8, 0), (124, .if_icmp .ge 80, 127, 0, 204, 0), (127, .aload_n 0, 128, 0, 0, 0), (128, .getfield 13, 131, 0, 4, 3),
  (131, .iload 6, 133, 0, 6, 0), (133, .iaload, 134, 0, 0, 0), (134, .istore 10, 136, 0, 10, 0), (136, .aload_n 0, 137, 0, 0, 0), (137, .iload_n 1, 138, 0, 1, 0), (138, .iload 6, 140, 0, 6, 0), (140, .aload_n 0, 141, 0, 0, 0), (141, .getfield 7, 144, 0, 4, 2),
  (144, .iload_n 1, 145, 0, 1, 0), (145, .iaload, 146, 0, 0, 0), (146, .isub, 147, 0, 0, 0), (147, .invokevirtual 110, 150, 0, 28, 2), (150, .aload_n 0, 151, 0, 0, 0), (151, .iload_n 1, 152, 0, 1, 0), (152, .iload 6, 154, 0, 6, 0), (154, .iconst 1, 155, 1, 0, 0),
  (155, .iadd, 156, 0, 0, 0), (156, .iload 9, 158, 0, 9, 0), (158, .iload 8, 160, 0, 8, 0), (160, .iload 9, 162, 0, 9, 0), (162, .isub, 163, 0, 0, 0), (163, .aload_n 0, 164, 0, 0, 0), (164, .getfield 19, 167, 0, 4, 5), (167, .iload 6, 169, 0, 6, 0),
  (169, .iaload, 170, 0, 0, 0), (170, .iload 9, 172, 0, 9, 0), (172, .iadd, 173, 0, 0, 0), (173, .iload 10, 175, 0, 10, 0), (175, .isub, 176, 0, 0, 0), (176, .aload_n 0, 177, 0, 0, 0), (177, .getfield 22, 180, 0, 4, 6), (180, .iload 6, 182, 0, 6, 0),
  (182, .baload, 183, 0, 0, 0), (183, .invokevirtual 113, 186, 0, 32, 6), (186, .aload_n 0, 187, 0, 0, 0), (187, .getfield 16, 190, 0, 4, 4), (190, .iload 6, 192, 0, 6, 0), (192, .iload 7, 194, 0, 7, 0), (194, .iload 10, 196, 0, 10, 0), (196, .isub, 197, 0, 0, 0),
  (197, .iastore, 198, 0, 0, 0), (198, .iinc 6 1, 201, 1, 6, 0), (201, .goto 113, 204, 0, 314, 0), (204, .iload 7, 206, 0, 7, 0), (206, .aload_n 0, 207, 0, 0, 0), (207, .getfield 13, 210, 0, 4, 3), (210, .iload 6, 212, 0, 6, 0), (212, .iaload, 213, 0, 0, 0),
  (213, .if_icmp .le 26, 216, 0, 239, 0), (216, .aload_n 0, 217, 0, 0, 0), (217, .getfield 16, 220, 0, 4, 4), (220, .iload 6, 222, 0, 6, 0), (222, .iload 7, 224, 0, 7, 0), (224, .aload_n 0, 225, 0, 0, 0), (225, .getfield 13, 228, 0, 4, 3), (228, .iload 6, 230, 0, 6, 0),
  (230, .iaload, 231, 0, 0, 0), (231, .isub, 232, 0, 0, 0), (232, .iastore, 233, 0, 0, 0), (233, .iinc 6 1, 236, 1, 6, 0), (236, .goto 78, 239, 0, 314, 0), (239, .iload 9, 241, 0, 9, 0), (241, .iload 8, 243, 0, 8, 0), (243, .if_icmp .ge 50, 246, 0, 293, 0),
  (246, .aload_n 0, 247, 0, 0, 0), (247, .getfield 19, 250, 0, 4, 5), (250, .iload 6, 252, 0, 6, 0), (252, .dup2, 253, 0, 0, 0), (253, .iaload, 254, 0, 0, 0), (254, .iload 9, 256, 0, 9, 0), (256, .aload_n 0, 257, 0, 0, 0), (257, .getfield 13, 260, 0, 4, 3),
  (260, .iload 6, 262, 0, 6, 0), (262, .iaload, 263, 0, 0, 0), (263, .isub, 264, 0, 0, 0), (264, .iadd, 265, 0, 0, 0), (265, .iastore, 266, 0, 0, 0), (266, .aload_n 0, 267, 0, 0, 0), (267, .getfield 13, 270, 0, 4, 3), (270, .iload 6, 272, 0, 6, 0),
  (272, .iload 9, 274, 0, 9, 0), (274, .iastore, 275, 0, 0, 0), (275, .aload_n 0, 276, 0, 0, 0), (276, .getfield 16, 279, 0, 4, 4), (279, .iload 6, 281, 0, 6, 0), (281, .iload 8, 283, 0, 8, 0), (283, .iload 9, 285, 0, 9, 0), (285, .isub, 286, 0, 0, 0),
  (286, .iastore, 287, 0, 0, 0), (287, .iinc 6 1, 290, 1, 6, 0), (290, .goto 24, 293, 0, 314, 0), (293, .aload_n 0, 294, 0, 0, 0), (294, .iload_n 1, 295, 0, 1, 0), (295, .iload 6, 297, 0, 6, 0), (297, .aload_n 0, 298, 0, 0, 0), (298, .getfield 7, 301, 0, 4, 2),
  (301, .iload_n 1, 302, 0, 1, 0), (302, .iaload, 303, 0, 0, 0), (303, .isub, 304, 0, 0, 0), (304, .invokevirtual 104, 307, 0, 29, 2), (307, .aload_n 0, 308, 0, 0, 0), (308, .iload_n 1, 309, 0, 1, 0), (309, .iload 6, 311, 0, 6, 0), (311, .invokevirtual 107, 314, 0, 33, 2),
  (314, .goto (-298), 317, 0, 16, 0), (317, .iload 5, 319, 0, 5, 0), (319, .ireturn, 320, 0, 0, 0)])
def m_Mod_noRange : gM := (⟨"ExtentTreeModel", "noRange", "(IIII)Z"⟩, prog_6_method_22_code, 5, (Option.some FieldType.boolean), 0, 0, [], [
  (0, .iload_n 1, 1, 0, 1, 0), (1, .ifCond .lt 37, 4, 0, 38, 0), (4, .iload_n 1, 5, 0, 1, 0), (5, .iconst 3, 6, 3, 0, 0), (6, .if_icmp .gt 32, 9, 0, 38, 0), (9, .iload_n 2, 10, 0, 2, 0), (10, .ifCond .lt 28, 13, 0, 38, 0), (13, .iload_n 2, 14, 0, 2, 0),
  (14, .ldc 117, 16, 65535, 0, 0), (16, .if_icmp .gt 22, 19, 0, 38, 0), (19, .iload_n 3, 20, 0, 3, 0), (20, .iconst 1, 21, 1, 0, 0), (21, .if_icmp .lt 17, 24, 0, 38, 0), (24, .iload_n 3, 25, 0, 3, 0), (25, .iload 4, 27, 0, 4, 0), (27, .if_icmp .gt 11, 30, 0, 38, 0),
  (30, .iload_n 2, 31, 0, 2, 0), (31, .iload_n 3, 32, 0, 3, 0), (32, .iadd, 33, 0, 0, 0), (33, .ldc 118, 35, 65536, 0, 0), (35, .if_icmp .le 7, 38, 0, 42, 0), (38, .iconst 1, 39, 1, 0, 0), (39, .goto 4, 42, 0, 43, 0), (42, .iconst 0, 43, 0, 0, 0),
  (43, .ireturn, 44, 0, 0, 0)])
def m_Mod_isTight : gM := (⟨"ExtentTreeModel", "isTight", "(IIII)Z"⟩, prog_6_method_23_code, 5, (Option.some FieldType.boolean), 1, 22, [], [
  (0, .aload_n 0, 1, 0, 0, 0), (1, .invokevirtual 60, 4, 0, 22, 0), (4, .iload_n 2, 5, 0, 2, 0), (5, .aload_n 0, 6, 0, 0, 0), (6, .getfield 26, 9, 0, 4, 7), (9, .iload_n 1, 10, 0, 1, 0), (10, .iaload, 11, 0, 0, 0), (11, .imul, 12, 0, 0, 0),
  (12, .iload_n 3, 13, 0, 3, 0), (13, .iadd, 14, 0, 0, 0), (14, .if_icmp .lt 24, 17, 0, 38, 0), (17, .aload_n 0, 18, 0, 0, 0), (18, .getfield 26, 21, 0, 4, 7), (21, .iload_n 1, 22, 0, 1, 0), (22, .iaload, 23, 0, 0, 0), (23, .iload 4, 25, 0, 4, 0),
  (25, .if_icmp .lt 17, 28, 0, 42, 0), (28, .aload_n 0, 29, 0, 0, 0), (29, .getfield 29, 32, 0, 4, 8), (32, .iload_n 1, 33, 0, 1, 0), (33, .iaload, 34, 0, 0, 0), (34, .iconst 4, 35, 4, 0, 0), (35, .if_icmp .ne 7, 38, 0, 42, 0), (38, .iconst 1, 39, 1, 0, 0),
  (39, .goto 4, 42, 0, 43, 0), (42, .iconst 0, 43, 0, 0, 0), (43, .ireturn, 44, 0, 0, 0)])
def m_Mod_noVolume : gM := (⟨"ExtentTreeModel", "noVolume", "(II)Z"⟩, prog_6_method_24_code, 3, (Option.some FieldType.boolean), 0, 0, [], [
  (0, .iload_n 1, 1, 0, 1, 0), (1, .iconst 1, 2, 1, 0, 0), (2, .if_icmp .lt 19, 5, 0, 21, 0), (5, .iload_n 1, 6, 0, 1, 0), (6, .ldc 119, 8, 16777216, 0, 0), (8, .if_icmp .gt 13, 11, 0, 21, 0), (11, .iload_n 1, 12, 0, 1, 0), (12, .iload_n 2, 13, 0, 2, 0),
  (13, .iadd, 14, 0, 0, 0), (14, .iconst 1, 15, 1, 0, 0), (15, .isub, 16, 0, 0, 0), (16, .ldc 119, 18, 16777216, 0, 0), (18, .if_icmp .le 7, 21, 0, 25, 0), (21, .iconst 1, 22, 1, 0, 0), (22, .goto 4, 25, 0, 26, 0), (25, .iconst 0, 26, 0, 0, 0),
  (26, .ireturn, 27, 0, 0, 0)])
def m_Mod_tryPut : gM := (⟨"ExtentTreeModel", "tryPut", "(IIIIZ)I"⟩, prog_6_method_25_code, 9, (Option.some FieldType.int), 5, 129, [], [
  (0, .aload_n 0, 1, 0, 0, 0), (1, .iload_n 1, 2, 0, 1, 0), (2, .iload_n 2, 3, 0, 2, 0), (3, .invokevirtual 97, 6, 0, 35, 2), (6, .istore 6, 8, 0, 6, 0), (8, .iload 6, 10, 0, 6, 0), (10, .aload_n 0, 11, 0, 0, 0), (11, .getfield 7, 14, 0, 4, 2),
  (14, .iload_n 1, 15, 0, 1, 0), (15, .iconst 1, 16, 1, 0, 0), (16, .iadd, 17, 0, 0, 0), (17, .iaload, 18, 0, 0, 0), (18, .if_icmp .ge 20, 21, 0, 38, 0), (21, .aload_n 0, 22, 0, 0, 0), (22, .getfield 13, 25, 0, 4, 3), (25, .iload 6, 27, 0, 6, 0),
  (27, .iaload, 28, 0, 0, 0), (28, .iload_n 2, 29, 0, 2, 0), (29, .iload_n 3, 30, 0, 3, 0), (30, .iadd, 31, 0, 0, 0), (31, .if_icmp .ge 7, 34, 0, 38, 0), (34, .iconst 1, 35, 1, 0, 0), (35, .goto 4, 38, 0, 39, 0), (38, .iconst 0, 39, 0, 0, 0),
  (39, .istore 7, 41, 0, 7, 0), (41, .iload 7, 43, 0, 7, 0), (43, .ifCond .eq 7, 46, 0, 50, 0), (46, .iconst 2, 47, 2, 0, 0), (47, .goto 19, 50, 0, 66, 0), (50, .aload_n 0, 51, 0, 0, 0), (51, .iload_n 1, 52, 0, 1, 0), (52, .iconst 1, 53, 1, 0, 0),
  (53, .iconst 1, 54, 1, 0, 0), (54, .iconst 5, 55, 5, 0, 0), (55, .invokevirtual 120, 58, 0, 40, 4), (58, .ifCond .eq 7, 61, 0, 65, 0), (61, .iconst 3, 62, 3, 0, 0), (62, .goto 4, 65, 0, 66, 0), (65, .iconst 0, 66, 0, 0, 0), (66, .istore 8, 68, 0, 8, 0),
  (68, .iload 8, 70, 0, 8, 0), (70, .ifCond .ne 19, 73, 0, 89, 0), (73, .aload_n 0, 74, 0, 0, 0), (74, .iload_n 1, 75, 0, 1, 0), (75, .iload_n 2, 76, 0, 2, 0), (76, .iload_n 3, 77, 0, 3, 0), (77, .iload 4, 79, 0, 4, 0), (79, .iload 5, 81, 0, 5, 0),
  (81, .invokevirtual 124, 84, 0, 37, 5), (84, .aload_n 0, 85, 0, 0, 0), (85, .iload_n 1, 86, 0, 1, 0), (86, .invokevirtual 128, 89, 0, 30, 1), (89, .iload 8, 91, 0, 8, 0), (91, .ireturn, 92, 0, 0, 0)])
def m_Mod_put : gM := (⟨"ExtentTreeModel", "put", "(IIIIZ)I"⟩, prog_6_method_26_code, 6, (Option.some FieldType.int), 6, 157, [], [
  (0, .aload_n 0, 1, 0, 0, 0), (1, .aload_n 0, 2, 0, 0, 0), (2, .iload_n 1, 3, 0, 1, 0), (3, .iload_n 2, 4, 0, 2, 0), (4, .iload_n 3, 5, 0, 3, 0), (5, .iload 5, 7, 0, 5, 0), (7, .ifCond .eq 8, 10, 0, 15, 0), (10, .ldc 96, 12, 32768, 0, 0),
  (12, .goto 6, 15, 0, 18, 0), (15, .sipush 32767, 18, 32767, 0, 0), (18, .invokevirtual 132, 21, 0, 39, 4), (21, .ifCond .ne 13, 24, 0, 34, 0), (24, .aload_n 0, 25, 0, 0, 0), (25, .iload 4, 27, 0, 4, 0), (27, .iload_n 3, 28, 0, 3, 0), (28, .invokevirtual 135, 31, 0, 41, 2),
  (31, .ifCond .eq 7, 34, 0, 38, 0), (34, .iconst 1, 35, 1, 0, 0), (35, .goto 4, 38, 0, 39, 0), (38, .iconst 0, 39, 0, 0, 0), (39, .putfield 57, 42, 0, 4, 0), (42, .aload_n 0, 43, 0, 0, 0), (43, .aload_n 0, 44, 0, 0, 0), (44, .getfield 57, 47, 0, 4, 0),
  (47, .ifCond .eq 7, 50, 0, 54, 0), (50, .iconst 1, 51, 1, 0, 0), (51, .goto 14, 54, 0, 65, 0), (54, .aload_n 0, 55, 0, 0, 0), (55, .iload_n 1, 56, 0, 1, 0), (56, .iload_n 2, 57, 0, 2, 0), (57, .iload_n 3, 58, 0, 3, 0), (58, .iload 4, 60, 0, 4, 0),
  (60, .iload 5, 62, 0, 5, 0), (62, .invokevirtual 139, 65, 0, 42, 5), (65, .putfield 57, 68, 0, 4, 0), (68, .aload_n 0, 69, 0, 0, 0), (69, .getfield 57, 72, 0, 4, 0), (72, .ifCond .eq 7, 75, 0, 79, 0), (75, .iconst 0, 76, 0, 0, 0), (76, .goto 8, 79, 0, 84, 0),
  (79, .aload_n 0, 80, 0, 0, 0), (80, .iload_n 1, 81, 0, 1, 0), (81, .invokevirtual 143, 84, 0, 31, 1), (84, .ireturn, 85, 0, 0, 0)])
def m_Mod_noSteps : gM := (⟨"ExtentTreeModel", "noSteps", "(IIII)Z"⟩, prog_6_method_27_code, 5, (Option.some FieldType.boolean), 0, 0, [], [
  (0, .iload_n 1, 1, 0, 1, 0), (1, .ifCond .lt 57, 4, 0, 58, 0), (4, .iload_n 1, 5, 0, 1, 0), (5, .iconst 3, 6, 3, 0, 0), (6, .if_icmp .gt 52, 9, 0, 58, 0), (9, .iload_n 2, 10, 0, 2, 0), (10, .ifCond .lt 48, 13, 0, 58, 0), (13, .iload_n 3, 14, 0, 3, 0),
  (14, .iconst 1, 15, 1, 0, 0), (15, .if_icmp .lt 43, 18, 0, 58, 0), (18, .iload_n 3, 19, 0, 3, 0), (19, .sipush 2000, 22, 2000, 0, 0), (22, .if_icmp .gt 36, 25, 0, 58, 0), (25, .iload 4, 27, 0, 4, 0), (27, .iconst 1, 28, 1, 0, 0), (28, .if_icmp .lt 30, 31, 0, 58, 0),
  (31, .iload 4, 33, 0, 4, 0), (33, .sipush 2000, 36, 2000, 0, 0), (36, .if_icmp .gt 22, 39, 0, 58, 0), (39, .iload_n 2, 40, 0, 2, 0), (40, .ldc 117, 42, 65535, 0, 0), (42, .if_icmp .gt 16, 45, 0, 58, 0), (45, .iload_n 2, 46, 0, 2, 0), (46, .iload_n 3, 47, 0, 3, 0),
  (47, .iload 4, 49, 0, 4, 0), (49, .iconst 1, 50, 1, 0, 0), (50, .isub, 51, 0, 0, 0), (51, .imul, 52, 0, 0, 0), (52, .iadd, 53, 0, 0, 0), (53, .ldc 117, 55, 65535, 0, 0), (55, .if_icmp .le 7, 58, 0, 62, 0), (58, .iconst 1, 59, 1, 0, 0),
  (59, .goto 4, 62, 0, 63, 0), (62, .iconst 0, 63, 0, 0, 0), (63, .ireturn, 64, 0, 0, 0)])
def m_Mod_spread : gM := (⟨"ExtentTreeModel", "spread", "(IIIII)I"⟩, prog_6_method_28_code, 8, (Option.some FieldType.int), 6, 157, [], [
  (0, .aload_n 0, 1, 0, 0, 0), (1, .iload_n 1, 2, 0, 1, 0), (2, .iload_n 2, 3, 0, 2, 0), (3, .iload_n 3, 4, 0, 3, 0), (4, .iload 4, 6, 0, 4, 0), (6, .invokevirtual 146, 9, 0, 44, 4), (9, .ifCond .ne 16, 12, 0, 25, 0), (12, .iload 5, 14, 0, 5, 0),
  (14, .iconst 1, 15, 1, 0, 0), (15, .if_icmp .lt 10, 18, 0, 25, 0), (18, .iload 5, 20, 0, 5, 0), (20, .ldc 119, 22, 16777216, 0, 0), (22, .if_icmp .le 7, 25, 0, 29, 0), (25, .iconst 1, 26, 1, 0, 0), (26, .goto 4, 29, 0, 30, 0), (29, .iconst 0, 30, 0, 0, 0),
  (30, .istore 6, 32, 0, 6, 0), (32, .aload_n 0, 33, 0, 0, 0), (33, .iload 6, 35, 0, 6, 0), (35, .ifCond .ne 17, 38, 0, 52, 0), (38, .iload 5, 40, 0, 5, 0), (40, .iconst 2, 41, 2, 0, 0), (41, .iload 4, 43, 0, 4, 0), (43, .iconst 1, 44, 1, 0, 0),
  (44, .isub, 45, 0, 0, 0), (45, .imul, 46, 0, 0, 0), (46, .iadd, 47, 0, 0, 0), (47, .ldc 119, 49, 16777216, 0, 0), (49, .if_icmp .le 7, 52, 0, 56, 0), (52, .iconst 1, 53, 1, 0, 0), (53, .goto 4, 56, 0, 57, 0), (56, .iconst 0, 57, 0, 0, 0),
  (57, .putfield 57, 60, 0, 4, 0), (60, .iconst 0, 61, 0, 0, 0), (61, .istore 7, 63, 0, 7, 0), (63, .aload_n 0, 64, 0, 0, 0), (64, .getfield 57, 67, 0, 4, 0), (67, .ifCond .ne 39, 70, 0, 106, 0), (70, .iload 7, 72, 0, 7, 0), (72, .iload 4, 74, 0, 4, 0),
  (74, .if_icmp .ge 32, 77, 0, 106, 0), (77, .aload_n 0, 78, 0, 0, 0), (78, .iload_n 1, 79, 0, 1, 0), (79, .iload_n 2, 80, 0, 2, 0), (80, .iload_n 3, 81, 0, 3, 0), (81, .iload 7, 83, 0, 7, 0), (83, .imul, 84, 0, 0, 0), (84, .iadd, 85, 0, 0, 0),
  (85, .iconst 1, 86, 1, 0, 0), (86, .iload 5, 88, 0, 5, 0), (88, .iconst 2, 89, 2, 0, 0), (89, .iload 7, 91, 0, 7, 0), (91, .imul, 92, 0, 0, 0), (92, .iadd, 93, 0, 0, 0), (93, .iconst 1, 94, 1, 0, 0), (94, .invokevirtual 139, 97, 0, 42, 5),
  (97, .ifCond .ne 9, 100, 0, 106, 0), (100, .iinc 7 1, 103, 1, 7, 0), (103, .goto (-40), 106, 0, 63, 0), (106, .iload 7, 108, 0, 7, 0), (108, .ireturn, 109, 0, 0, 0)])
def m_Mod_punch : gM := (⟨"ExtentTreeModel", "punch", "(III)I"⟩, prog_6_method_29_code, 5, (Option.some FieldType.int), 5, 128, [], [
  (0, .aload_n 0, 1, 0, 0, 0), (1, .aload_n 0, 2, 0, 0, 0), (2, .iload_n 1, 3, 0, 1, 0), (3, .iload_n 2, 4, 0, 2, 0), (4, .iload_n 3, 5, 0, 3, 0), (5, .ldc 118, 7, 65536, 0, 0), (7, .invokevirtual 132, 10, 0, 39, 4), (10, .ifCond .eq 7, 13, 0, 17, 0),
  (13, .iconst 1, 14, 1, 0, 0), (14, .goto 4, 17, 0, 18, 0), (17, .iconst 0, 18, 0, 0, 0), (18, .putfield 57, 21, 0, 4, 0), (21, .aload_n 0, 22, 0, 0, 0), (22, .aload_n 0, 23, 0, 0, 0), (23, .getfield 57, 26, 0, 4, 0), (26, .ifCond .eq 7, 29, 0, 33, 0),
  (29, .iconst 1, 30, 1, 0, 0), (30, .goto 19, 33, 0, 49, 0), (33, .aload_n 0, 34, 0, 0, 0), (34, .iload_n 1, 35, 0, 1, 0), (35, .iconst 1, 36, 1, 0, 0), (36, .iconst 1, 37, 1, 0, 0), (37, .iconst 5, 38, 5, 0, 0), (38, .invokevirtual 120, 41, 0, 40, 4),
  (41, .ifCond .eq 7, 44, 0, 48, 0), (44, .iconst 2, 45, 2, 0, 0), (45, .goto 4, 48, 0, 49, 0), (48, .iconst 0, 49, 0, 0, 0), (49, .putfield 57, 52, 0, 4, 0), (52, .aload_n 0, 53, 0, 0, 0), (53, .getfield 57, 56, 0, 4, 0), (56, .ifCond .eq 5, 59, 0, 61, 0),
  (59, .iconst 0, 60, 0, 0, 0), (60, .ireturn, 61, 0, 0, 0), (61, .aload_n 0, 62, 0, 0, 0), (62, .iload_n 1, 63, 0, 1, 0), (63, .iload_n 2, 64, 0, 2, 0), (64, .iload_n 3, 65, 0, 3, 0), (65, .invokevirtual 149, 68, 0, 38, 3), (68, .istore 4, 70, 0, 4, 0),
  (70, .aload_n 0, 71, 0, 0, 0), (71, .iload_n 1, 72, 0, 1, 0), (72, .invokevirtual 128, 75, 0, 30, 1), (75, .iload 4, 77, 0, 4, 0), (77, .ireturn, 78, 0, 0, 0)])
def m_Mod_strip : gM := (⟨"ExtentTreeModel", "strip", "(IIII)I"⟩, prog_6_method_30_code, 7, (Option.some FieldType.int), 5, 128, [], [
  (0, .aload_n 0, 1, 0, 0, 0), (1, .aload_n 0, 2, 0, 0, 0), (2, .iload_n 1, 3, 0, 1, 0), (3, .iload_n 2, 4, 0, 2, 0), (4, .iload_n 3, 5, 0, 3, 0), (5, .iload 4, 7, 0, 4, 0), (7, .invokevirtual 146, 10, 0, 44, 4), (10, .ifCond .eq 7, 13, 0, 17, 0),
  (13, .iconst 1, 14, 1, 0, 0), (14, .goto 4, 17, 0, 18, 0), (17, .iconst 0, 18, 0, 0, 0), (18, .putfield 57, 21, 0, 4, 0), (21, .iconst 0, 22, 0, 0, 0), (22, .istore 5, 24, 0, 5, 0), (24, .iconst 0, 25, 0, 0, 0), (25, .istore 6, 27, 0, 6, 0),
  (27, .aload_n 0, 28, 0, 0, 0), (28, .getfield 57, 31, 0, 4, 0), (31, .ifCond .ne 49, 34, 0, 80, 0), (34, .iload 6, 36, 0, 6, 0), (36, .iload 4, 38, 0, 4, 0), (38, .if_icmp .ge 42, 41, 0, 80, 0), (41, .aload_n 0, 42, 0, 0, 0), (42, .iload_n 1, 43, 0, 1, 0),
  (43, .iconst 1, 44, 1, 0, 0), (44, .iconst 1, 45, 1, 0, 0), (45, .iconst 5, 46, 5, 0, 0), (46, .invokevirtual 120, 49, 0, 40, 4), (49, .ifCond .ne 31, 52, 0, 80, 0), (52, .iload 5, 54, 0, 5, 0), (54, .aload_n 0, 55, 0, 0, 0), (55, .iload_n 1, 56, 0, 1, 0),
  (56, .iload_n 2, 57, 0, 2, 0), (57, .iload_n 3, 58, 0, 3, 0), (58, .iload 6, 60, 0, 6, 0), (60, .imul, 61, 0, 0, 0), (61, .iadd, 62, 0, 0, 0), (62, .iconst 1, 63, 1, 0, 0), (63, .invokevirtual 149, 66, 0, 38, 3), (66, .iadd, 67, 0, 0, 0),
  (67, .istore 5, 69, 0, 5, 0), (69, .aload_n 0, 70, 0, 0, 0), (70, .iload_n 1, 71, 0, 1, 0), (71, .invokevirtual 128, 74, 0, 30, 1), (74, .iinc 6 1, 77, 1, 6, 0), (77, .goto (-50), 80, 0, 27, 0), (80, .iload 5, 82, 0, 5, 0), (82, .ireturn, 83, 0, 0, 0)])
def m_Mod_write : gM := (⟨"ExtentTreeModel", "write", "(III)I"⟩, prog_6_method_31_code, 8, (Option.some FieldType.int), 5, 129, [], [
  (0, .aload_n 0, 1, 0, 0, 0), (1, .aload_n 0, 2, 0, 0, 0), (2, .iload_n 1, 3, 0, 1, 0), (3, .iload_n 2, 4, 0, 2, 0), (4, .iload_n 3, 5, 0, 3, 0), (5, .ldc 118, 7, 65536, 0, 0), (7, .invokevirtual 132, 10, 0, 39, 4), (10, .ifCond .eq 7, 13, 0, 17, 0),
  (13, .iconst 1, 14, 1, 0, 0), (14, .goto 4, 17, 0, 18, 0), (17, .iconst 0, 18, 0, 0, 0), (18, .putfield 57, 21, 0, 4, 0), (21, .aload_n 0, 22, 0, 0, 0), (22, .getfield 57, 25, 0, 4, 0), (25, .ifCond .eq 5, 28, 0, 30, 0), (28, .iconst 0, 29, 0, 0, 0),
  (29, .ireturn, 30, 0, 0, 0), (30, .aload_n 0, 31, 0, 0, 0), (31, .iload_n 1, 32, 0, 1, 0), (32, .iload_n 2, 33, 0, 2, 0), (33, .invokevirtual 97, 36, 0, 35, 2), (36, .istore 4, 38, 0, 4, 0), (38, .iload 4, 40, 0, 4, 0), (40, .aload_n 0, 41, 0, 0, 0),
  (41, .getfield 7, 44, 0, 4, 2), (44, .iload_n 1, 45, 0, 1, 0), (45, .iconst 1, 46, 1, 0, 0), (46, .iadd, 47, 0, 0, 0), (47, .iaload, 48, 0, 0, 0), (48, .if_icmp .ge 49, 51, 0, 97, 0), (51, .aload_n 0, 52, 0, 0, 0), (52, .getfield 13, 55, 0, 4, 3),
  (55, .iload 4, 57, 0, 4, 0), (57, .iaload, 58, 0, 0, 0), (58, .iload_n 2, 59, 0, 2, 0), (59, .if_icmp .gt 38, 62, 0, 97, 0), (62, .aload_n 0, 63, 0, 0, 0), (63, .getfield 13, 66, 0, 4, 3), (66, .iload 4, 68, 0, 4, 0), (68, .iaload, 69, 0, 0, 0),
  (69, .aload_n 0, 70, 0, 0, 0), (70, .getfield 16, 73, 0, 4, 4), (73, .iload 4, 75, 0, 4, 0), (75, .iaload, 76, 0, 0, 0), (76, .iadd, 77, 0, 0, 0), (77, .iload_n 2, 78, 0, 2, 0), (78, .iload_n 3, 79, 0, 3, 0), (79, .iadd, 80, 0, 0, 0),
  (80, .if_icmp .lt 17, 83, 0, 97, 0), (83, .aload_n 0, 84, 0, 0, 0), (84, .getfield 22, 87, 0, 4, 6), (87, .iload 4, 89, 0, 4, 0), (89, .baload, 90, 0, 0, 0), (90, .ifCond .ne 7, 93, 0, 97, 0), (93, .iconst 1, 94, 1, 0, 0), (94, .goto 4, 97, 0, 98, 0),
  (97, .iconst 0, 98, 0, 0, 0), (98, .istore 5, 100, 0, 5, 0), (100, .aload_n 0, 101, 0, 0, 0), (101, .iload 5, 103, 0, 5, 0), (103, .ifCond .ne 7, 106, 0, 110, 0), (106, .iconst 2, 107, 2, 0, 0), (107, .goto 19, 110, 0, 126, 0), (110, .aload_n 0, 111, 0, 0, 0),
  (111, .iload_n 1, 112, 0, 1, 0), (112, .iconst 2, 113, 2, 0, 0), (113, .iconst 3, 114, 3, 0, 0), (114, .iconst 4, 115, 4, 0, 0), (115, .invokevirtual 120, 118, 0, 40, 4), (118, .ifCond .eq 7, 121, 0, 125, 0), (121, .iconst 3, 122, 3, 0, 0), (122, .goto 4, 125, 0, 126, 0),
  (125, .iconst 0, 126, 0, 0, 0), (126, .putfield 57, 129, 0, 4, 0), (129, .aload_n 0, 130, 0, 0, 0), (130, .getfield 57, 133, 0, 4, 0), (133, .ifCond .eq 5, 136, 0, 138, 0), (136, .iconst 0, 137, 0, 0, 0), (137, .ireturn, 138, 0, 0, 0), (138, .aload_n 0, 139, 0, 0, 0),
  (139, .getfield 19, 142, 0, 4, 5), (142, .iload 4, 144, 0, 4, 0), (144, .iaload, 145, 0, 0, 0), (145, .iload_n 2, 146, 0, 2, 0), (146, .iadd, 147, 0, 0, 0), (147, .aload_n 0, 148, 0, 0, 0), (148, .getfield 13, 151, 0, 4, 3), (151, .iload 4, 153, 0, 4, 0),
  (153, .iaload, 154, 0, 0, 0), (154, .isub, 155, 0, 0, 0), (155, .istore 6, 157, 0, 6, 0), (157, .aload_n 0, 158, 0, 0, 0), (158, .iload_n 1, 159, 0, 1, 0), (159, .iload_n 2, 160, 0, 2, 0), (160, .iload_n 3, 161, 0, 3, 0), (161, .invokevirtual 149, 164, 0, 38, 3),
  (164, .istore 7, 166, 0, 7, 0), (166, .aload_n 0, 167, 0, 0, 0), (167, .iload_n 1, 168, 0, 1, 0), (168, .iload_n 2, 169, 0, 2, 0), (169, .iload 7, 171, 0, 7, 0), (171, .iload 6, 173, 0, 6, 0), (173, .iconst 1, 174, 1, 0, 0), (174, .invokevirtual 124, 177, 0, 37, 5),
  (177, .aload_n 0, 178, 0, 0, 0), (178, .iload_n 1, 179, 0, 1, 0), (179, .invokevirtual 128, 182, 0, 30, 1), (182, .aload_n 0, 183, 0, 0, 0), (183, .iload_n 1, 184, 0, 1, 0), (184, .invokevirtual 143, 187, 0, 31, 1), (187, .ireturn, 188, 0, 0, 0)])
def m_Mod_noBlock : gM := (⟨"ExtentTreeModel", "noBlock", "(II)Z"⟩, prog_6_method_32_code, 3, (Option.some FieldType.boolean), 0, 0, [], [
  (0, .iload_n 1, 1, 0, 1, 0), (1, .ifCond .lt 18, 4, 0, 19, 0), (4, .iload_n 1, 5, 0, 1, 0), (5, .iconst 3, 6, 3, 0, 0), (6, .if_icmp .gt 13, 9, 0, 19, 0), (9, .iload_n 2, 10, 0, 2, 0), (10, .ifCond .lt 9, 13, 0, 19, 0), (13, .iload_n 2, 14, 0, 2, 0),
  (14, .ldc 117, 16, 65535, 0, 0), (16, .if_icmp .le 7, 19, 0, 23, 0), (19, .iconst 1, 20, 1, 0, 0), (20, .goto 4, 23, 0, 24, 0), (23, .iconst 0, 24, 0, 0, 0), (24, .ireturn, 25, 0, 0, 0)])
def m_Mod_look : gM := (⟨"ExtentTreeModel", "look", "(II)I"⟩, prog_6_method_33_code, 4, (Option.some FieldType.int), 1, 25, [], [
  (0, .aload_n 0, 1, 0, 0, 0), (1, .aload_n 0, 2, 0, 0, 0), (2, .iload_n 1, 3, 0, 1, 0), (3, .iload_n 2, 4, 0, 2, 0), (4, .invokevirtual 153, 7, 0, 49, 2), (7, .ifCond .eq 7, 10, 0, 14, 0), (10, .iconst 1, 11, 1, 0, 0), (11, .goto 4, 14, 0, 15, 0),
  (14, .iconst 0, 15, 0, 0, 0), (15, .putfield 57, 18, 0, 4, 0), (18, .aload_n 0, 19, 0, 0, 0), (19, .getfield 57, 22, 0, 4, 0), (22, .ifCond .eq 5, 25, 0, 27, 0), (25, .iconst 0, 26, 0, 0, 0), (26, .ireturn, 27, 0, 0, 0), (27, .aload_n 0, 28, 0, 0, 0),
  (28, .iload_n 1, 29, 0, 1, 0), (29, .iload_n 2, 30, 0, 2, 0), (30, .invokevirtual 97, 33, 0, 35, 2), (33, .istore_n 3, 34, 0, 3, 0), (34, .iload_n 3, 35, 0, 3, 0), (35, .aload_n 0, 36, 0, 0, 0), (36, .getfield 7, 39, 0, 4, 2), (39, .iload_n 1, 40, 0, 1, 0),
  (40, .iconst 1, 41, 1, 0, 0), (41, .iadd, 42, 0, 0, 0), (42, .iaload, 43, 0, 0, 0), (43, .if_icmp .ge 31, 46, 0, 74, 0), (46, .aload_n 0, 47, 0, 0, 0), (47, .getfield 13, 50, 0, 4, 3), (50, .iload_n 3, 51, 0, 3, 0), (51, .iaload, 52, 0, 0, 0),
  (52, .iload_n 2, 53, 0, 2, 0), (53, .if_icmp .gt 21, 56, 0, 74, 0), (56, .aload_n 0, 57, 0, 0, 0), (57, .getfield 19, 60, 0, 4, 5), (60, .iload_n 3, 61, 0, 3, 0), (61, .iaload, 62, 0, 0, 0), (62, .iload_n 2, 63, 0, 2, 0), (63, .iadd, 64, 0, 0, 0),
  (64, .aload_n 0, 65, 0, 0, 0), (65, .getfield 13, 68, 0, 4, 3), (68, .iload_n 3, 69, 0, 3, 0), (69, .iaload, 70, 0, 0, 0), (70, .isub, 71, 0, 0, 0), (71, .goto 4, 74, 0, 75, 0), (74, .iconst (-1), 75, (-1), 0, 0), (75, .ireturn, 76, 0, 0, 0)])
def m_Mod_written : gM := (⟨"ExtentTreeModel", "written", "(II)Z"⟩, prog_6_method_34_code, 4, (Option.some FieldType.boolean), 1, 25, [], [
  (0, .aload_n 0, 1, 0, 0, 0), (1, .aload_n 0, 2, 0, 0, 0), (2, .iload_n 1, 3, 0, 1, 0), (3, .iload_n 2, 4, 0, 2, 0), (4, .invokevirtual 153, 7, 0, 49, 2), (7, .ifCond .eq 7, 10, 0, 14, 0), (10, .iconst 1, 11, 1, 0, 0), (11, .goto 4, 14, 0, 15, 0),
  (14, .iconst 0, 15, 0, 0, 0), (15, .putfield 57, 18, 0, 4, 0), (18, .aload_n 0, 19, 0, 0, 0), (19, .getfield 57, 22, 0, 4, 0), (22, .ifCond .eq 5, 25, 0, 27, 0), (25, .iconst 0, 26, 0, 0, 0), (26, .ireturn, 27, 0, 0, 0), (27, .aload_n 0, 28, 0, 0, 0),
  (28, .iload_n 1, 29, 0, 1, 0), (29, .iload_n 2, 30, 0, 2, 0), (30, .invokevirtual 97, 33, 0, 35, 2), (33, .istore_n 3, 34, 0, 3, 0), (34, .iload_n 3, 35, 0, 3, 0), (35, .aload_n 0, 36, 0, 0, 0), (36, .getfield 7, 39, 0, 4, 2), (39, .iload_n 1, 40, 0, 1, 0),
  (40, .iconst 1, 41, 1, 0, 0), (41, .iadd, 42, 0, 0, 0), (42, .iaload, 43, 0, 0, 0), (43, .if_icmp .ge 26, 46, 0, 69, 0), (46, .aload_n 0, 47, 0, 0, 0), (47, .getfield 13, 50, 0, 4, 3), (50, .iload_n 3, 51, 0, 3, 0), (51, .iaload, 52, 0, 0, 0),
  (52, .iload_n 2, 53, 0, 2, 0), (53, .if_icmp .gt 16, 56, 0, 69, 0), (56, .aload_n 0, 57, 0, 0, 0), (57, .getfield 22, 60, 0, 4, 6), (60, .iload_n 3, 61, 0, 3, 0), (61, .baload, 62, 0, 0, 0), (62, .ifCond .eq 7, 65, 0, 69, 0), (65, .iconst 1, 66, 1, 0, 0),
  (66, .goto 4, 69, 0, 70, 0), (69, .iconst 0, 70, 0, 0, 0), (70, .ireturn, 71, 0, 0, 0)])
def m_Mod_reach : gM := (⟨"ExtentTreeModel", "reach", "(II)I"⟩, prog_6_method_35_code, 5, (Option.some FieldType.int), 1, 25, [], [
  (0, .aload_n 0, 1, 0, 0, 0), (1, .aload_n 0, 2, 0, 0, 0), (2, .iload_n 1, 3, 0, 1, 0), (3, .iload_n 2, 4, 0, 2, 0), (4, .invokevirtual 153, 7, 0, 49, 2), (7, .ifCond .eq 7, 10, 0, 14, 0), (10, .iconst 1, 11, 1, 0, 0), (11, .goto 4, 14, 0, 15, 0),
  (14, .iconst 0, 15, 0, 0, 0), (15, .putfield 57, 18, 0, 4, 0), (18, .aload_n 0, 19, 0, 0, 0), (19, .getfield 57, 22, 0, 4, 0), (22, .ifCond .eq 5, 25, 0, 27, 0), (25, .iconst 0, 26, 0, 0, 0), (26, .ireturn, 27, 0, 0, 0), (27, .aload_n 0, 28, 0, 0, 0),
  (28, .iload_n 1, 29, 0, 1, 0), (29, .iload_n 2, 30, 0, 2, 0), (30, .invokevirtual 97, 33, 0, 35, 2), (33, .istore_n 3, 34, 0, 3, 0), (34, .iload_n 3, 35, 0, 3, 0), (35, .aload_n 0, 36, 0, 0, 0), (36, .getfield 7, 39, 0, 4, 2), (39, .iload_n 1, 40, 0, 1, 0),
  (40, .iconst 1, 41, 1, 0, 0), (41, .iadd, 42, 0, 0, 0), (42, .iaload, 43, 0, 0, 0), (43, .if_icmp .ne 8, 46, 0, 51, 0), (46, .ldc 118, 48, 65536, 0, 0), (48, .goto 35, 51, 0, 83, 0), (51, .aload_n 0, 52, 0, 0, 0), (52, .getfield 13, 55, 0, 4, 3),
  (55, .iload_n 3, 56, 0, 3, 0), (56, .iaload, 57, 0, 0, 0), (57, .iload_n 2, 58, 0, 2, 0), (58, .if_icmp .gt 19, 61, 0, 77, 0), (61, .aload_n 0, 62, 0, 0, 0), (62, .getfield 13, 65, 0, 4, 3), (65, .iload_n 3, 66, 0, 3, 0), (66, .iaload, 67, 0, 0, 0),
  (67, .aload_n 0, 68, 0, 0, 0), (68, .getfield 16, 71, 0, 4, 4), (71, .iload_n 3, 72, 0, 3, 0), (72, .iaload, 73, 0, 0, 0), (73, .iadd, 74, 0, 0, 0), (74, .goto 9, 77, 0, 83, 0), (77, .aload_n 0, 78, 0, 0, 0), (78, .getfield 13, 81, 0, 4, 3),
  (81, .iload_n 3, 82, 0, 3, 0), (82, .iaload, 83, 0, 0, 0), (83, .istore 4, 85, 0, 4, 0), (85, .iload 4, 87, 0, 4, 0), (87, .iload_n 2, 88, 0, 2, 0), (88, .isub, 89, 0, 0, 0), (89, .ireturn, 90, 0, 0, 0)])
def m_Mod_count : gM := (⟨"ExtentTreeModel", "count", "(II)I"⟩, prog_6_method_36_code, 7, (Option.some FieldType.int), 1, 21, [], [
  (0, .aload_n 0, 1, 0, 0, 0), (1, .iload_n 1, 2, 0, 1, 0), (2, .ifCond .lt 17, 5, 0, 19, 0), (5, .iload_n 1, 6, 0, 1, 0), (6, .iconst 3, 7, 3, 0, 0), (7, .if_icmp .gt 12, 10, 0, 19, 0), (10, .iload_n 2, 11, 0, 2, 0), (11, .ifCond .lt 8, 14, 0, 19, 0),
  (14, .iload_n 2, 15, 0, 2, 0), (15, .iconst 5, 16, 5, 0, 0), (16, .if_icmp .le 7, 19, 0, 23, 0), (19, .iconst 1, 20, 1, 0, 0), (20, .goto 4, 23, 0, 24, 0), (23, .iconst 0, 24, 0, 0, 0), (24, .putfield 57, 27, 0, 4, 0), (27, .aload_n 0, 28, 0, 0, 0),
  (28, .getfield 57, 31, 0, 4, 0), (31, .ifCond .eq 5, 34, 0, 36, 0), (34, .iconst 0, 35, 0, 0, 0), (35, .ireturn, 36, 0, 0, 0), (36, .iconst 0, 37, 0, 0, 0), (37, .istore_n 3, 38, 0, 3, 0), (38, .iconst 0, 39, 0, 0, 0), (39, .istore 4, 41, 0, 4, 0),
  (41, .iconst 0, 42, 0, 0, 0), (42, .istore 5, 44, 0, 5, 0), (44, .aload_n 0, 45, 0, 0, 0), (45, .getfield 7, 48, 0, 4, 2), (48, .iload_n 1, 49, 0, 1, 0), (49, .iaload, 50, 0, 0, 0), (50, .istore 6, 52, 0, 6, 0), (52, .iload 6, 54, 0, 6, 0),
  (54, .aload_n 0, 55, 0, 0, 0), (55, .getfield 7, 58, 0, 4, 2), (58, .iload_n 1, 59, 0, 1, 0), (59, .iconst 1, 60, 1, 0, 0), (60, .iadd, 61, 0, 0, 0), (61, .iaload, 62, 0, 0, 0), (62, .if_icmp .ge 45, 65, 0, 107, 0), (65, .iload_n 3, 66, 0, 3, 0),
  (66, .aload_n 0, 67, 0, 0, 0), (67, .getfield 16, 70, 0, 4, 4), (70, .iload 6, 72, 0, 6, 0), (72, .iaload, 73, 0, 0, 0), (73, .iadd, 74, 0, 0, 0), (74, .istore_n 3, 75, 0, 3, 0), (75, .iload 4, 77, 0, 4, 0), (77, .aload_n 0, 78, 0, 0, 0),
  (78, .getfield 22, 81, 0, 4, 6), (81, .iload 6, 83, 0, 6, 0), (83, .baload, 84, 0, 0, 0), (84, .ifCond .eq 13, 87, 0, 97, 0), (87, .aload_n 0, 88, 0, 0, 0), (88, .getfield 16, 91, 0, 4, 4), (91, .iload 6, 93, 0, 6, 0), (93, .iaload, 94, 0, 0, 0),
  (94, .goto 4, 97, 0, 98, 0), (97, .iconst 0, 98, 0, 0, 0), (98, .iadd, 99, 0, 0, 0), (99, .istore 4, 101, 0, 4, 0), (101, .iinc 6 1, 104, 1, 6, 0), (104, .goto (-52), 107, 0, 52, 0), (107, .iconst 0, 108, 0, 0, 0), (108, .istore 6, 110, 0, 6, 0),
  (110, .iload 6, 112, 0, 6, 0), (112, .bipush 6, 114, 6, 0, 0), (114, .if_icmp .ge 26, 117, 0, 140, 0), (117, .iload 5, 119, 0, 5, 0), (119, .aload_n 0, 120, 0, 0, 0), (120, .getfield 38, 123, 0, 4, 11), (123, .bipush 6, 125, 6, 0, 0), (125, .iload_n 1, 126, 0, 1, 0),
  (126, .imul, 127, 0, 0, 0), (127, .iload 6, 129, 0, 6, 0), (129, .iadd, 130, 0, 0, 0), (130, .iaload, 131, 0, 0, 0), (131, .iadd, 132, 0, 0, 0), (132, .istore 5, 134, 0, 5, 0), (134, .iinc 6 1, 137, 1, 6, 0), (137, .goto (-27), 140, 0, 110, 0),
  (140, .iload_n 2, 141, 0, 2, 0), (141, .tableswitch 56 0 4 #[35, 41, 48, 51, 53], 176, 0, 0, 0), (176, .aload_n 0, 177, 0, 0, 0), (177, .iload_n 1, 178, 0, 1, 0), (178, .invokevirtual 143, 181, 0, 31, 1), (181, .ireturn, 182, 0, 0, 0), (182, .aload_n 0, 183, 0, 0, 0), (183, .getfield 26, 186, 0, 4, 7),
  (186, .iload_n 1, 187, 0, 1, 0), (187, .iaload, 188, 0, 0, 0), (188, .ireturn, 189, 0, 0, 0), (189, .iload 5, 191, 0, 5, 0), (191, .ireturn, 192, 0, 0, 0), (192, .iload_n 3, 193, 0, 3, 0), (193, .ireturn, 194, 0, 0, 0), (194, .iload 4, 196, 0, 4, 0),
  (196, .ireturn, 197, 0, 0, 0), (197, .aload_n 0, 198, 0, 0, 0), (198, .getfield 26, 201, 0, 4, 7), (201, .iload_n 1, 202, 0, 1, 0), (202, .iaload, 203, 0, 0, 0), (203, .ifCond .ne 7, 206, 0, 210, 0), (206, .iconst 1, 207, 1, 0, 0), (207, .goto 12, 210, 0, 219, 0),
  (210, .aload_n 0, 211, 0, 0, 0), (211, .getfield 38, 214, 0, 4, 11), (214, .bipush 6, 216, 6, 0, 0), (216, .iload_n 1, 217, 0, 1, 0), (217, .imul, 218, 0, 0, 0), (218, .iaload, 219, 0, 0, 0), (219, .ireturn, 220, 0, 0, 0)])
def m_Mod_byteIn : gM := (⟨"ExtentTreeModel", "byteIn", "(II)I"⟩, prog_6_method_37_code, 3, (Option.some FieldType.int), 0, 0, [], [
  (0, .iload_n 1, 1, 0, 1, 0), (1, .bipush 8, 3, 8, 0, 0), (3, .iload_n 2, 4, 0, 2, 0), (4, .imul, 5, 0, 0, 0), (5, .ishr, 6, 0, 0, 0), (6, .sipush 255, 9, 255, 0, 0), (9, .iand, 10, 0, 0, 0), (10, .ireturn, 11, 0, 0, 0)])
def m_Mod_headByte : gM := (⟨"ExtentTreeModel", "headByte", "(IIII)I"⟩, prog_6_method_38_code, 6, (Option.some FieldType.int), 1, 22, [], [
  (0, .iload_n 1, 1, 0, 1, 0), (1, .iconst 2, 2, 2, 0, 0), (2, .if_icmp .ge 8, 5, 0, 10, 0), (5, .ldc 156, 7, 62218, 0, 0), (7, .goto 24, 10, 0, 31, 0), (10, .iload_n 1, 11, 0, 1, 0), (11, .iconst 4, 12, 4, 0, 0), (12, .if_icmp .ge 7, 15, 0, 19, 0),
  (15, .iload_n 2, 16, 0, 2, 0), (16, .goto 15, 19, 0, 31, 0), (19, .iload_n 1, 20, 0, 1, 0), (20, .bipush 6, 22, 6, 0, 0), (22, .if_icmp .ge 7, 25, 0, 29, 0), (25, .iload_n 3, 26, 0, 3, 0), (26, .goto 5, 29, 0, 31, 0), (29, .iload 4, 31, 0, 4, 0),
  (31, .istore 5, 33, 0, 5, 0), (33, .aload_n 0, 34, 0, 0, 0), (34, .iload 5, 36, 0, 5, 0), (36, .iload_n 1, 37, 0, 1, 0), (37, .iconst 2, 38, 2, 0, 0), (38, .irem, 39, 0, 0, 0), (39, .invokevirtual 157, 42, 0, 54, 2), (42, .ireturn, 43, 0, 0, 0)])
def m_Mod_firstRun : gM := (⟨"ExtentTreeModel", "firstRun", "(III)I"⟩, prog_6_method_39_code, 8, (Option.some FieldType.int), 1, 24, [], [
  (0, .iload_n 3, 1, 0, 3, 0), (1, .istore 4, 3, 0, 4, 0), (3, .iload_n 2, 4, 0, 2, 0), (4, .istore 5, 6, 0, 5, 0), (6, .iload 5, 8, 0, 5, 0), (8, .ifCond .le 58, 11, 0, 66, 0), (11, .aload_n 0, 12, 0, 0, 0), (12, .iload_n 1, 13, 0, 1, 0),
  (13, .iload 5, 15, 0, 5, 0), (15, .iconst 1, 16, 1, 0, 0), (16, .isub, 17, 0, 0, 0), (17, .invokevirtual 64, 20, 0, 23, 2), (20, .istore 6, 22, 0, 6, 0), (22, .aload_n 0, 23, 0, 0, 0), (23, .iload_n 1, 24, 0, 1, 0), (24, .iload 5, 26, 0, 5, 0),
  (26, .invokevirtual 64, 29, 0, 23, 2), (29, .istore 7, 31, 0, 7, 0), (31, .iload 7, 33, 0, 7, 0), (33, .iload 4, 35, 0, 4, 0), (35, .if_icmp .ge 21, 38, 0, 56, 0), (38, .iload 6, 40, 0, 6, 0), (40, .aload_n 0, 41, 0, 0, 0), (41, .getfield 35, 44, 0, 4, 10),
  (44, .iload 7, 46, 0, 7, 0), (46, .iaload, 47, 0, 0, 0), (47, .iadd, 48, 0, 0, 0), (48, .istore 6, 50, 0, 6, 0), (50, .iinc 7 1, 53, 1, 7, 0), (53, .goto (-22), 56, 0, 31, 0), (56, .iload 6, 58, 0, 6, 0), (58, .istore 4, 60, 0, 4, 0),
  (60, .iinc 5 (-1), 63, (-1), 5, 0), (63, .goto (-57), 66, 0, 6, 0), (66, .aload_n 0, 67, 0, 0, 0), (67, .getfield 7, 70, 0, 4, 2), (70, .iload_n 1, 71, 0, 1, 0), (71, .iaload, 72, 0, 0, 0), (72, .istore 5, 74, 0, 5, 0), (74, .aload_n 0, 75, 0, 0, 0),
  (75, .iload_n 1, 76, 0, 1, 0), (76, .iconst 0, 77, 0, 0, 0), (77, .invokevirtual 64, 80, 0, 23, 2), (80, .istore 6, 82, 0, 6, 0), (82, .iload 6, 84, 0, 6, 0), (84, .iload 4, 86, 0, 4, 0), (86, .if_icmp .ge 21, 89, 0, 107, 0), (89, .iload 5, 91, 0, 5, 0),
  (91, .aload_n 0, 92, 0, 0, 0), (92, .getfield 35, 95, 0, 4, 10), (95, .iload 6, 97, 0, 6, 0), (97, .iaload, 98, 0, 0, 0), (98, .iadd, 99, 0, 0, 0), (99, .istore 5, 101, 0, 5, 0), (101, .iinc 6 1, 104, 1, 6, 0), (104, .goto (-22), 107, 0, 82, 0),
  (107, .iload 5, 109, 0, 5, 0), (109, .ireturn, 110, 0, 0, 0)])
def m_Mod_runByte : gM := (⟨"ExtentTreeModel", "runByte", "(II)I"⟩, prog_6_method_40_code, 3, (Option.some FieldType.int), 1, 22, [], [
  (0, .iload_n 2, 1, 0, 2, 0), (1, .iconst 4, 2, 4, 0, 0), (2, .if_icmp .ge 17, 5, 0, 19, 0), (5, .aload_n 0, 6, 0, 0, 0), (6, .aload_n 0, 7, 0, 0, 0), (7, .getfield 13, 10, 0, 4, 3), (10, .iload_n 1, 11, 0, 1, 0), (11, .iaload, 12, 0, 0, 0),
  (12, .iload_n 2, 13, 0, 2, 0), (13, .invokevirtual 157, 16, 0, 54, 2), (16, .goto 65, 19, 0, 81, 0), (19, .iload_n 2, 20, 0, 2, 0), (20, .bipush 6, 22, 6, 0, 0), (22, .if_icmp .ge 35, 25, 0, 57, 0), (25, .aload_n 0, 26, 0, 0, 0), (26, .aload_n 0, 27, 0, 0, 0),
  (27, .getfield 16, 30, 0, 4, 4), (30, .iload_n 1, 31, 0, 1, 0), (31, .iaload, 32, 0, 0, 0), (32, .aload_n 0, 33, 0, 0, 0), (33, .getfield 22, 36, 0, 4, 6), (36, .iload_n 1, 37, 0, 1, 0), (37, .baload, 38, 0, 0, 0), (38, .ifCond .eq 7, 41, 0, 45, 0),
  (41, .iconst 0, 42, 0, 0, 0), (42, .goto 5, 45, 0, 47, 0), (45, .ldc 96, 47, 32768, 0, 0), (47, .iadd, 48, 0, 0, 0), (48, .iload_n 2, 49, 0, 2, 0), (49, .iconst 4, 50, 4, 0, 0), (50, .isub, 51, 0, 0, 0), (51, .invokevirtual 157, 54, 0, 54, 2),
  (54, .goto 27, 57, 0, 81, 0), (57, .iload_n 2, 58, 0, 2, 0), (58, .bipush 8, 60, 8, 0, 0), (60, .if_icmp .ge 7, 63, 0, 67, 0), (63, .iconst 0, 64, 0, 0, 0), (64, .goto 17, 67, 0, 81, 0), (67, .aload_n 0, 68, 0, 0, 0), (68, .aload_n 0, 69, 0, 0, 0),
  (69, .getfield 19, 72, 0, 4, 5), (72, .iload_n 1, 73, 0, 1, 0), (73, .iaload, 74, 0, 0, 0), (74, .iload_n 2, 75, 0, 2, 0), (75, .bipush 8, 77, 8, 0, 0), (77, .isub, 78, 0, 0, 0), (78, .invokevirtual 157, 81, 0, 54, 2), (81, .ireturn, 82, 0, 0, 0)])
def m_Mod_nodeEntryByte : gM := (⟨"ExtentTreeModel", "nodeEntryByte", "(IIII)I"⟩, prog_6_method_41_code, 5, (Option.some FieldType.int), 2, 51, [], [
  (0, .iload 4, 2, 0, 4, 0), (2, .iconst 4, 3, 4, 0, 0), (3, .if_icmp .ge 24, 6, 0, 27, 0), (6, .aload_n 0, 7, 0, 0, 0), (7, .aload_n 0, 8, 0, 0, 0), (8, .getfield 13, 11, 0, 4, 3), (11, .aload_n 0, 12, 0, 0, 0), (12, .iload_n 1, 13, 0, 1, 0),
  (13, .iload_n 2, 14, 0, 2, 0), (14, .iload_n 3, 15, 0, 3, 0), (15, .invokevirtual 160, 18, 0, 56, 3), (18, .iaload, 19, 0, 0, 0), (19, .iload 4, 21, 0, 4, 0), (21, .invokevirtual 157, 24, 0, 54, 2), (24, .goto 28, 27, 0, 52, 0), (27, .iload 4, 29, 0, 4, 0),
  (29, .bipush 8, 31, 8, 0, 0), (31, .if_icmp .ge 20, 34, 0, 51, 0), (34, .aload_n 0, 35, 0, 0, 0), (35, .aload_n 0, 36, 0, 0, 0), (36, .getfield 32, 39, 0, 4, 9), (39, .iload_n 3, 40, 0, 3, 0), (40, .iaload, 41, 0, 0, 0), (41, .iload 4, 43, 0, 4, 0),
  (43, .iconst 4, 44, 4, 0, 0), (44, .isub, 45, 0, 0, 0), (45, .invokevirtual 157, 48, 0, 54, 2), (48, .goto 4, 51, 0, 52, 0), (51, .iconst 0, 52, 0, 0, 0), (52, .ireturn, 53, 0, 0, 0)])
def m_Mod_bytesOf : gM := (⟨"ExtentTreeModel", "bytesOf", "(IIIIII)I"⟩, prog_6_method_42_code, 8, (Option.some FieldType.int), 3, 75, [], [
  (0, .iload_n 2, 1, 0, 2, 0), (1, .bipush 8, 3, 8, 0, 0), (3, .if_icmp .ge 14, 6, 0, 17, 0), (6, .aload_n 0, 7, 0, 0, 0), (7, .iload_n 2, 8, 0, 2, 0), (8, .iload_n 3, 9, 0, 3, 0), (9, .iload 4, 11, 0, 4, 0), (11, .iload 5, 13, 0, 5, 0),
  (13, .invokevirtual 163, 16, 0, 55, 4), (16, .ireturn, 17, 0, 0, 0), (17, .iload_n 2, 18, 0, 2, 0), (18, .bipush 12, 20, 12, 0, 0), (20, .if_icmp .ge 7, 23, 0, 27, 0), (23, .iload_n 3, 24, 0, 3, 0), (24, .goto 10, 27, 0, 34, 0), (27, .iload_n 2, 28, 0, 2, 0),
  (28, .bipush 12, 30, 12, 0, 0), (30, .isub, 31, 0, 0, 0), (31, .bipush 12, 33, 12, 0, 0), (33, .idiv, 34, 0, 0, 0), (34, .istore 7, 36, 0, 7, 0), (36, .iload 7, 38, 0, 7, 0), (38, .iload_n 3, 39, 0, 3, 0), (39, .if_icmp .lt 5, 42, 0, 44, 0),
  (42, .iconst 0, 43, 0, 0, 0), (43, .ireturn, 44, 0, 0, 0), (44, .iload 5, 46, 0, 5, 0), (46, .ifCond .ne 22, 49, 0, 68, 0), (49, .aload_n 0, 50, 0, 0, 0), (50, .iload 6, 52, 0, 6, 0), (52, .iload 7, 54, 0, 7, 0), (54, .iadd, 55, 0, 0, 0),
  (55, .iload_n 2, 56, 0, 2, 0), (56, .bipush 12, 58, 12, 0, 0), (58, .isub, 59, 0, 0, 0), (59, .bipush 12, 61, 12, 0, 0), (61, .irem, 62, 0, 0, 0), (62, .invokevirtual 167, 65, 0, 57, 2), (65, .goto 24, 68, 0, 89, 0), (68, .aload_n 0, 69, 0, 0, 0),
  (69, .iload_n 1, 70, 0, 1, 0), (70, .iload 5, 72, 0, 5, 0), (72, .iconst 1, 73, 1, 0, 0), (73, .isub, 74, 0, 0, 0), (74, .iload 6, 76, 0, 6, 0), (76, .iload 7, 78, 0, 7, 0), (78, .iadd, 79, 0, 0, 0), (79, .iload_n 2, 80, 0, 2, 0),
  (80, .bipush 12, 82, 12, 0, 0), (82, .isub, 83, 0, 0, 0), (83, .bipush 12, 85, 12, 0, 0), (85, .irem, 86, 0, 0, 0), (86, .invokevirtual 170, 89, 0, 58, 4), (89, .ireturn, 90, 0, 0, 0)])
def m_Mod_rootByte : gM := (⟨"ExtentTreeModel", "rootByte", "(II)I"⟩, prog_6_method_43_code, 4, (Option.some FieldType.int), 4, 102, [], [
  (0, .aload_n 0, 1, 0, 0, 0), (1, .iload_n 1, 2, 0, 1, 0), (2, .ifCond .lt 8, 5, 0, 10, 0), (5, .iload_n 1, 6, 0, 1, 0), (6, .iconst 3, 7, 3, 0, 0), (7, .if_icmp .le 7, 10, 0, 14, 0), (10, .iconst 1, 11, 1, 0, 0), (11, .goto 18, 14, 0, 29, 0),
  (14, .iload_n 2, 15, 0, 2, 0), (15, .ifCond .lt 9, 18, 0, 24, 0), (18, .iload_n 2, 19, 0, 2, 0), (19, .bipush 59, 21, 59, 0, 0), (21, .if_icmp .le 7, 24, 0, 28, 0), (24, .iconst 2, 25, 2, 0, 0), (25, .goto 4, 28, 0, 29, 0), (28, .iconst 0, 29, 0, 0, 0),
  (29, .putfield 57, 32, 0, 4, 0), (32, .aload_n 0, 33, 0, 0, 0), (33, .getfield 57, 36, 0, 4, 0), (36, .ifCond .eq 5, 39, 0, 41, 0), (39, .iconst 0, 40, 0, 0, 0), (40, .ireturn, 41, 0, 0, 0), (41, .aload_n 0, 42, 0, 0, 0), (42, .getfield 26, 45, 0, 4, 7),
  (45, .iload_n 1, 46, 0, 1, 0), (46, .iaload, 47, 0, 0, 0), (47, .istore_n 3, 48, 0, 3, 0), (48, .aload_n 0, 49, 0, 0, 0), (49, .iload_n 1, 50, 0, 1, 0), (50, .iload_n 2, 51, 0, 2, 0), (51, .aload_n 0, 52, 0, 0, 0), (52, .getfield 29, 55, 0, 4, 8),
  (55, .iload_n 1, 56, 0, 1, 0), (56, .iaload, 57, 0, 0, 0), (57, .iconst 4, 58, 4, 0, 0), (58, .iload_n 3, 59, 0, 3, 0), (59, .iload_n 3, 60, 0, 3, 0), (60, .ifCond .ne 12, 63, 0, 72, 0), (63, .aload_n 0, 64, 0, 0, 0), (64, .getfield 7, 67, 0, 4, 2),
  (67, .iload_n 1, 68, 0, 1, 0), (68, .iaload, 69, 0, 0, 0), (69, .goto 11, 72, 0, 80, 0), (72, .aload_n 0, 73, 0, 0, 0), (73, .iload_n 1, 74, 0, 1, 0), (74, .iload_n 3, 75, 0, 3, 0), (75, .iconst 1, 76, 1, 0, 0), (76, .isub, 77, 0, 0, 0),
  (77, .invokevirtual 64, 80, 0, 23, 2), (80, .invokevirtual 173, 83, 0, 59, 6), (83, .ireturn, 84, 0, 0, 0)])
def m_Mod_nodeByte : gM := (⟨"ExtentTreeModel", "nodeByte", "(II)I"⟩, prog_6_method_44_code, 8, (Option.some FieldType.int), 4, 102, [], [
  (0, .aload_n 0, 1, 0, 0, 0), (1, .iload_n 1, 2, 0, 1, 0), (2, .iconst 1, 3, 1, 0, 0), (3, .if_icmp .lt 21, 6, 0, 24, 0), (6, .iload_n 1, 7, 0, 1, 0), (7, .sipush 256, 10, 256, 0, 0), (10, .if_icmp .ge 14, 13, 0, 24, 0), (13, .iload_n 2, 14, 0, 2, 0),
  (14, .ifCond .lt 10, 17, 0, 24, 0), (17, .iload_n 2, 18, 0, 2, 0), (18, .sipush 1023, 21, 1023, 0, 0), (21, .if_icmp .le 7, 24, 0, 28, 0), (24, .iconst 1, 25, 1, 0, 0), (25, .goto 17, 28, 0, 42, 0), (28, .aload_n 0, 29, 0, 0, 0), (29, .getfield 41, 32, 0, 4, 12),
  (32, .iload_n 1, 33, 0, 1, 0), (33, .baload, 34, 0, 0, 0), (34, .ifCond .ne 7, 37, 0, 41, 0), (37, .iconst 1, 38, 1, 0, 0), (38, .goto 4, 41, 0, 42, 0), (41, .iconst 0, 42, 0, 0, 0), (42, .putfield 57, 45, 0, 4, 0), (45, .aload_n 0, 46, 0, 0, 0),
  (46, .getfield 57, 49, 0, 4, 0), (49, .ifCond .eq 5, 52, 0, 54, 0), (52, .iconst 0, 53, 0, 0, 0), (53, .ireturn, 54, 0, 0, 0), (54, .iconst 0, 55, 0, 0, 0), (55, .istore_n 3, 56, 0, 3, 0), (56, .iload_n 3, 57, 0, 3, 0), (57, .iconst 4, 58, 4, 0, 0),
  (58, .if_icmp .ge 138, 61, 0, 196, 0), (61, .iconst 0, 62, 0, 0, 0), (62, .istore 4, 64, 0, 4, 0), (64, .iload 4, 66, 0, 4, 0), (66, .aload_n 0, 67, 0, 0, 0), (67, .getfield 26, 70, 0, 4, 7), (70, .iload_n 3, 71, 0, 3, 0), (71, .iaload, 72, 0, 0, 0),
  (72, .if_icmp .ge 118, 75, 0, 190, 0), (75, .aload_n 0, 76, 0, 0, 0), (76, .iload_n 3, 77, 0, 3, 0), (77, .iload 4, 79, 0, 4, 0), (79, .invokevirtual 64, 82, 0, 23, 2), (82, .istore 5, 84, 0, 5, 0), (84, .iload 4, 86, 0, 4, 0), (86, .ifCond .ne 12, 89, 0, 98, 0),
  (89, .aload_n 0, 90, 0, 0, 0), (90, .getfield 7, 93, 0, 4, 2), (93, .iload_n 3, 94, 0, 3, 0), (94, .iaload, 95, 0, 0, 0), (95, .goto 12, 98, 0, 107, 0), (98, .aload_n 0, 99, 0, 0, 0), (99, .iload_n 3, 100, 0, 3, 0), (100, .iload 4, 102, 0, 4, 0),
  (102, .iconst 1, 103, 1, 0, 0), (103, .isub, 104, 0, 0, 0), (104, .invokevirtual 64, 107, 0, 23, 2), (107, .istore 6, 109, 0, 6, 0), (109, .iload 5, 111, 0, 5, 0), (111, .istore 7, 113, 0, 7, 0), (113, .iload 7, 115, 0, 7, 0), (115, .iload 5, 117, 0, 5, 0),
  (117, .aload_n 0, 118, 0, 0, 0), (118, .getfield 38, 121, 0, 4, 11), (121, .bipush 6, 123, 6, 0, 0), (123, .iload_n 3, 124, 0, 3, 0), (124, .imul, 125, 0, 0, 0), (125, .iload 4, 127, 0, 4, 0), (127, .iadd, 128, 0, 0, 0), (128, .iaload, 129, 0, 0, 0),
  (129, .iadd, 130, 0, 0, 0), (130, .if_icmp .ge 54, 133, 0, 184, 0), (133, .aload_n 0, 134, 0, 0, 0), (134, .getfield 32, 137, 0, 4, 9), (137, .iload 7, 139, 0, 7, 0), (139, .iaload, 140, 0, 0, 0), (140, .iload_n 1, 141, 0, 1, 0), (141, .if_icmp .ne 25, 144, 0, 166, 0),
  (144, .aload_n 0, 145, 0, 0, 0), (145, .iload_n 3, 146, 0, 3, 0), (146, .iload_n 2, 147, 0, 2, 0), (147, .aload_n 0, 148, 0, 0, 0), (148, .getfield 35, 151, 0, 4, 10), (151, .iload 7, 153, 0, 7, 0), (153, .iaload, 154, 0, 0, 0), (154, .aload_n 0, 155, 0, 0, 0),
  (155, .getfield 53, 158, 0, 4, 1), (158, .iload 4, 160, 0, 4, 0), (160, .iload 6, 162, 0, 6, 0), (162, .invokevirtual 173, 165, 0, 59, 6), (165, .ireturn, 166, 0, 0, 0), (166, .iload 6, 168, 0, 6, 0), (168, .aload_n 0, 169, 0, 0, 0), (169, .getfield 35, 172, 0, 4, 10),
  (172, .iload 7, 174, 0, 7, 0), (174, .iaload, 175, 0, 0, 0), (175, .iadd, 176, 0, 0, 0), (176, .istore 6, 178, 0, 6, 0), (178, .iinc 7 1, 181, 1, 7, 0), (181, .goto (-68), 184, 0, 113, 0), (184, .iinc 4 1, 187, 1, 4, 0), (187, .goto (-123), 190, 0, 64, 0),
  (190, .iinc 3 1, 193, 1, 3, 0), (193, .goto (-137), 196, 0, 56, 0), (196, .iconst 0, 197, 0, 0, 0), (197, .ireturn, 198, 0, 0, 0)])
def m_Node_init : gM := (⟨"ExtentTree$Node", "<init>", "(II)V"⟩, prog_2_method_1_code, 3, (none : Option FieldType), 1, 21, [], [
  (0, .aload_n 0, 1, 0, 0, 0), (1, .invokespecial 3, 4, 1, 0, 0), (4, .aload_n 0, 5, 0, 0, 0), (5, .iload_n 1, 6, 0, 1, 0), (6, .putfield 9, 9, 0, 0, 0), (9, .aload_n 0, 10, 0, 0, 0), (10, .iconst 4, 11, 4, 0, 0), (11, .bipush 84, 13, 84, 0, 0),
  (13, .iload_n 2, 14, 0, 2, 0), (14, .invokestatic 15, 17, 2, 0, 0), (17, .invokestatic 21, 20, 1, 0, 0), (20, .putfield 24, 23, 0, 0, 1), (23, .aload_n 0, 24, 0, 0, 0), (24, .aload_n 0, 25, 0, 0, 0), (25, .getfield 24, 28, 0, 0, 1), (28, .iconst 3, 29, 3, 0, 0),
  (29, .imul, 30, 0, 0, 0), (30, .newarray .int, 32, 0, 0, 0), (32, .putfield 27, 35, 0, 0, 5), (35, .return_, 36, 0, 0, 0)])
def m_Node_isFull : gM := (⟨"ExtentTree$Node", "isFull", "()Z"⟩, prog_2_method_2_code, 1, (Option.some FieldType.boolean), 0, 0, [], [
  (0, .aload_n 0, 1, 0, 0, 0), (1, .getfield 31, 4, 0, 0, 4), (4, .aload_n 0, 5, 0, 0, 0), (5, .getfield 24, 8, 0, 0, 1), (8, .if_icmp .lt 7, 11, 0, 15, 0), (11, .iconst 1, 12, 1, 0, 0), (12, .goto 4, 15, 0, 16, 0), (15, .iconst 0, 16, 0, 0, 0),
  (16, .ireturn, 17, 0, 0, 0)])
def m_Node_hasEntry : gM := (⟨"ExtentTree$Node", "hasEntry", "(I)Z"⟩, prog_2_method_3_code, 2, (Option.some FieldType.boolean), 0, 0, [], [
  (0, .iload_n 1, 1, 0, 1, 0), (1, .ifCond .lt 23, 4, 0, 24, 0), (4, .iload_n 1, 5, 0, 1, 0), (5, .aload_n 0, 6, 0, 0, 0), (6, .getfield 31, 9, 0, 0, 4), (9, .if_icmp .ge 15, 12, 0, 24, 0), (12, .iload_n 1, 13, 0, 1, 0), (13, .aload_n 0, 14, 0, 0, 0),
  (14, .getfield 24, 17, 0, 0, 1), (17, .if_icmp .ge 7, 20, 0, 24, 0), (20, .iconst 1, 21, 1, 0, 0), (21, .goto 4, 24, 0, 25, 0), (24, .iconst 0, 25, 0, 0, 0), (25, .ireturn, 26, 0, 0, 0)])
def m_Node_word : gM := (⟨"ExtentTree$Node", "word", "(II)I"⟩, prog_2_method_4_code, 3, (Option.some FieldType.int), 1, 21, [], [
  (0, .aload_n 0, 1, 0, 0, 0), (1, .iload_n 1, 2, 0, 1, 0), (2, .invokevirtual 34, 5, 0, 64, 1), (5, .ifCond .eq 16, 8, 0, 21, 0), (8, .aload_n 0, 9, 0, 0, 0), (9, .getfield 27, 12, 0, 0, 5), (12, .iload_n 1, 13, 0, 1, 0), (13, .iconst 3, 14, 3, 0, 0),
  (14, .imul, 15, 0, 0, 0), (15, .iload_n 2, 16, 0, 2, 0), (16, .iadd, 17, 0, 0, 0), (17, .iaload, 18, 0, 0, 0), (18, .goto 4, 21, 0, 22, 0), (21, .iconst 0, 22, 0, 0, 0), (22, .ireturn, 23, 0, 0, 0)])
def m_Node_firstAt : gM := (⟨"ExtentTree$Node", "firstAt", "(I)I"⟩, prog_2_method_5_code, 2, (Option.some FieldType.int), 2, 43, [], [
  (0, .aload_n 0, 1, 0, 0, 0), (1, .iload_n 1, 2, 0, 1, 0), (2, .iconst 0, 3, 0, 0, 0), (3, .invokevirtual 38, 6, 0, 65, 2), (6, .ireturn, 7, 0, 0, 0)])
def m_Node_belowAt : gM := (⟨"ExtentTree$Node", "belowAt", "(I)I"⟩, prog_2_method_6_code, 2, (Option.some FieldType.int), 2, 43, [], [
  (0, .aload_n 0, 1, 0, 0, 0), (1, .iload_n 1, 2, 0, 1, 0), (2, .iconst 1, 3, 1, 0, 0), (3, .invokevirtual 38, 6, 0, 65, 2), (6, .ireturn, 7, 0, 0, 0)])
def m_Node_lengthAt : gM := (⟨"ExtentTree$Node", "lengthAt", "(I)I"⟩, prog_2_method_7_code, 3, (Option.some FieldType.int), 2, 43, [], [
  (0, .aload_n 0, 1, 0, 0, 0), (1, .iload_n 1, 2, 0, 1, 0), (2, .iconst 1, 3, 1, 0, 0), (3, .invokevirtual 38, 6, 0, 65, 2), (6, .istore_n 2, 7, 0, 2, 0), (7, .iload_n 2, 8, 0, 2, 0), (8, .ldc 41, 10, 32768, 0, 0), (10, .if_icmp .le 10, 13, 0, 20, 0),
  (13, .iload_n 2, 14, 0, 2, 0), (14, .ldc 41, 16, 32768, 0, 0), (16, .isub, 17, 0, 0, 0), (17, .goto 4, 20, 0, 21, 0), (20, .iload_n 2, 21, 0, 2, 0), (21, .ireturn, 22, 0, 0, 0)])
def m_Node_isWrittenAt : gM := (⟨"ExtentTree$Node", "isWrittenAt", "(I)Z"⟩, prog_2_method_8_code, 2, (Option.some FieldType.boolean), 2, 43, [], [
  (0, .aload_n 0, 1, 0, 0, 0), (1, .iload_n 1, 2, 0, 1, 0), (2, .invokevirtual 34, 5, 0, 64, 1), (5, .ifCond .eq 18, 8, 0, 23, 0), (8, .aload_n 0, 9, 0, 0, 0), (9, .iload_n 1, 10, 0, 1, 0), (10, .iconst 1, 11, 1, 0, 0), (11, .invokevirtual 38, 14, 0, 65, 2),
  (14, .ldc 41, 16, 32768, 0, 0), (16, .if_icmp .gt 7, 19, 0, 23, 0), (19, .iconst 1, 20, 1, 0, 0), (20, .goto 4, 23, 0, 24, 0), (23, .iconst 0, 24, 0, 0, 0), (24, .ireturn, 25, 0, 0, 0)])
def m_Node_volumeAt : gM := (⟨"ExtentTree$Node", "volumeAt", "(I)I"⟩, prog_2_method_9_code, 2, (Option.some FieldType.int), 2, 43, [], [
  (0, .aload_n 0, 1, 0, 0, 0), (1, .iload_n 1, 2, 0, 1, 0), (2, .iconst 2, 3, 2, 0, 0), (3, .invokevirtual 38, 6, 0, 65, 2), (6, .ireturn, 7, 0, 0, 0)])
def m_Node_setFirst : gM := (⟨"ExtentTree$Node", "setFirst", "(II)V"⟩, prog_2_method_10_code, 3, (none : Option FieldType), 1, 21, [], [
  (0, .aload_n 0, 1, 0, 0, 0), (1, .iload_n 1, 2, 0, 1, 0), (2, .invokevirtual 34, 5, 0, 64, 1), (5, .ifCond .eq 12, 8, 0, 17, 0), (8, .aload_n 0, 9, 0, 0, 0), (9, .getfield 27, 12, 0, 0, 5), (12, .iload_n 1, 13, 0, 1, 0), (13, .iconst 3, 14, 3, 0, 0),
  (14, .imul, 15, 0, 0, 0), (15, .iload_n 2, 16, 0, 2, 0), (16, .iastore, 17, 0, 0, 0), (17, .return_, 18, 0, 0, 0)])
def m_Node_setEntry : gM := (⟨"ExtentTree$Node", "setEntry", "(IIII)V"⟩, prog_2_method_11_code, 6, (none : Option FieldType), 1, 21, [], [
  (0, .aload_n 0, 1, 0, 0, 0), (1, .iload_n 1, 2, 0, 1, 0), (2, .invokevirtual 34, 5, 0, 64, 1), (5, .ifCond .eq 37, 8, 0, 42, 0), (8, .iload_n 1, 9, 0, 1, 0), (9, .iconst 3, 10, 3, 0, 0), (10, .imul, 11, 0, 0, 0), (11, .istore 5, 13, 0, 5, 0),
  (13, .aload_n 0, 14, 0, 0, 0), (14, .getfield 27, 17, 0, 0, 5), (17, .iload 5, 19, 0, 5, 0), (19, .iload_n 2, 20, 0, 2, 0), (20, .iastore, 21, 0, 0, 0), (21, .aload_n 0, 22, 0, 0, 0), (22, .getfield 27, 25, 0, 0, 5), (25, .iload 5, 27, 0, 5, 0),
  (27, .iconst 1, 28, 1, 0, 0), (28, .iadd, 29, 0, 0, 0), (29, .iload_n 3, 30, 0, 3, 0), (30, .iastore, 31, 0, 0, 0), (31, .aload_n 0, 32, 0, 0, 0), (32, .getfield 27, 35, 0, 0, 5), (35, .iload 5, 37, 0, 5, 0), (37, .iconst 2, 38, 2, 0, 0),
  (38, .iadd, 39, 0, 0, 0), (39, .iload 4, 41, 0, 4, 0), (41, .iastore, 42, 0, 0, 0), (42, .return_, 43, 0, 0, 0)])
def m_Node_lastUpTo : gM := (⟨"ExtentTree$Node", "lastUpTo", "(I)I"⟩, prog_2_method_12_code, 5, (Option.some FieldType.int), 3, 64, [], [
  (0, .iconst 0, 1, 0, 0, 0), (1, .istore_n 2, 2, 0, 2, 0), (2, .aload_n 0, 3, 0, 0, 0), (3, .getfield 31, 6, 0, 0, 4), (6, .istore_n 3, 7, 0, 3, 0), (7, .iload_n 2, 8, 0, 2, 0), (8, .iload_n 3, 9, 0, 3, 0), (9, .if_icmp .ge 34, 12, 0, 43, 0),
  (12, .iload_n 2, 13, 0, 2, 0), (13, .iload_n 3, 14, 0, 3, 0), (14, .iadd, 15, 0, 0, 0), (15, .iconst 2, 16, 2, 0, 0), (16, .idiv, 17, 0, 0, 0), (17, .istore 4, 19, 0, 4, 0), (19, .aload_n 0, 20, 0, 0, 0), (20, .iload 4, 22, 0, 4, 0),
  (22, .invokevirtual 42, 25, 0, 66, 1), (25, .iload_n 1, 26, 0, 1, 0), (26, .if_icmp .gt 11, 29, 0, 37, 0), (29, .iload 4, 31, 0, 4, 0), (31, .iconst 1, 32, 1, 0, 0), (32, .iadd, 33, 0, 0, 0), (33, .istore_n 2, 34, 0, 2, 0), (34, .goto 6, 37, 0, 40, 0),
  (37, .iload 4, 39, 0, 4, 0), (39, .istore_n 3, 40, 0, 3, 0), (40, .goto (-33), 43, 0, 7, 0), (43, .iload_n 2, 44, 0, 2, 0), (44, .iconst 1, 45, 1, 0, 0), (45, .isub, 46, 0, 0, 0), (46, .ireturn, 47, 0, 0, 0)])
def m_Node_insert : gM := (⟨"ExtentTree$Node", "insert", "(IIII)V"⟩, prog_2_method_13_code, 7, (none : Option FieldType), 2, 46, [], [
  (0, .aload_n 0, 1, 0, 0, 0), (1, .invokevirtual 46, 4, 0, 63, 0), (4, .ifCond .ne 15, 7, 0, 19, 0), (7, .iload_n 1, 8, 0, 1, 0), (8, .ifCond .lt 11, 11, 0, 19, 0), (11, .iload_n 1, 12, 0, 1, 0), (12, .aload_n 0, 13, 0, 0, 0), (13, .getfield 31, 16, 0, 0, 4),
  (16, .if_icmp .le 4, 19, 0, 20, 0), (19, .return_, 20, 0, 0, 0), (20, .iload_n 1, 21, 0, 1, 0), (21, .iconst 3, 22, 3, 0, 0), (22, .imul, 23, 0, 0, 0), (23, .istore 5, 25, 0, 5, 0), (25, .aload_n 0, 26, 0, 0, 0), (26, .getfield 31, 29, 0, 0, 4),
  (29, .iload_n 1, 30, 0, 1, 0), (30, .isub, 31, 0, 0, 0), (31, .iconst 3, 32, 3, 0, 0), (32, .imul, 33, 0, 0, 0), (33, .istore 6, 35, 0, 6, 0), (35, .aload_n 0, 36, 0, 0, 0), (36, .getfield 27, 39, 0, 0, 5), (39, .iload 5, 41, 0, 5, 0),
  (41, .aload_n 0, 42, 0, 0, 0), (42, .getfield 27, 45, 0, 0, 5), (45, .iload 5, 47, 0, 5, 0), (47, .iconst 3, 48, 3, 0, 0), (48, .iadd, 49, 0, 0, 0), (49, .iload 6, 51, 0, 6, 0), (51, .invokestatic 50, 54, 3, 0, 0), (54, .aload_n 0, 55, 0, 0, 0),
  (55, .dup, 56, 0, 0, 0), (56, .getfield 31, 59, 0, 0, 4), (59, .iconst 1, 60, 1, 0, 0), (60, .iadd, 61, 0, 0, 0), (61, .putfield 31, 64, 0, 0, 4), (64, .aload_n 0, 65, 0, 0, 0), (65, .iload_n 1, 66, 0, 1, 0), (66, .iload_n 2, 67, 0, 2, 0),
  (67, .iload_n 3, 68, 0, 3, 0), (68, .iload 4, 70, 0, 4, 0), (70, .invokevirtual 56, 73, 0, 72, 4), (73, .return_, 74, 0, 0, 0)])
def m_Node_remove : gM := (⟨"ExtentTree$Node", "remove", "(I)V"⟩, prog_2_method_14_code, 4, (none : Option FieldType), 1, 26, [], [
  (0, .aload_n 0, 1, 0, 0, 0), (1, .iload_n 1, 2, 0, 1, 0), (2, .invokevirtual 34, 5, 0, 64, 1), (5, .ifCond .ne 4, 8, 0, 9, 0), (8, .return_, 9, 0, 0, 0), (9, .iload_n 1, 10, 0, 1, 0), (10, .iconst 3, 11, 3, 0, 0), (11, .imul, 12, 0, 0, 0),
  (12, .istore_n 2, 13, 0, 2, 0), (13, .aload_n 0, 14, 0, 0, 0), (14, .getfield 31, 17, 0, 0, 4), (17, .iload_n 1, 18, 0, 1, 0), (18, .isub, 19, 0, 0, 0), (19, .iconst 1, 20, 1, 0, 0), (20, .isub, 21, 0, 0, 0), (21, .iconst 3, 22, 3, 0, 0),
  (22, .imul, 23, 0, 0, 0), (23, .istore_n 3, 24, 0, 3, 0), (24, .aload_n 0, 25, 0, 0, 0), (25, .getfield 27, 28, 0, 0, 5), (28, .iload_n 2, 29, 0, 2, 0), (29, .iconst 3, 30, 3, 0, 0), (30, .iadd, 31, 0, 0, 0), (31, .aload_n 0, 32, 0, 0, 0),
  (32, .getfield 27, 35, 0, 0, 5), (35, .iload_n 2, 36, 0, 2, 0), (36, .iload_n 3, 37, 0, 3, 0), (37, .invokestatic 50, 40, 3, 0, 0), (40, .aload_n 0, 41, 0, 0, 0), (41, .dup, 42, 0, 0, 0), (42, .getfield 31, 45, 0, 0, 4), (45, .iconst 1, 46, 1, 0, 0),
  (46, .isub, 47, 0, 0, 0), (47, .putfield 31, 50, 0, 0, 4), (50, .return_, 51, 0, 0, 0)])
def m_Node_moveTail : gM := (⟨"ExtentTree$Node", "moveTail", "(ILExtentTree$Node;)V"⟩, prog_2_method_15_code, 4, (none : Option FieldType), 1, 26, [], [
  (0, .aload_n 0, 1, 0, 0, 0), (1, .getfield 31, 4, 0, 0, 4), (4, .iload_n 1, 5, 0, 1, 0), (5, .isub, 6, 0, 0, 0), (6, .istore_n 3, 7, 0, 3, 0), (7, .iload_n 1, 8, 0, 1, 0), (8, .ifCond .lt 15, 11, 0, 23, 0), (11, .iload_n 3, 12, 0, 3, 0),
  (12, .ifCond .lt 11, 15, 0, 23, 0), (15, .iload_n 3, 16, 0, 3, 0), (16, .aload_n 2, 17, 0, 2, 0), (17, .getfield 24, 20, 0, 0, 1), (20, .if_icmp .le 4, 23, 0, 24, 0), (23, .return_, 24, 0, 0, 0), (24, .aload_n 0, 25, 0, 0, 0), (25, .getfield 27, 28, 0, 0, 5),
  (28, .iload_n 1, 29, 0, 1, 0), (29, .iconst 3, 30, 3, 0, 0), (30, .imul, 31, 0, 0, 0), (31, .aload_n 2, 32, 0, 2, 0), (32, .getfield 27, 35, 0, 0, 5), (35, .iconst 0, 36, 0, 0, 0), (36, .iload_n 3, 37, 0, 3, 0), (37, .iconst 3, 38, 3, 0, 0),
  (38, .imul, 39, 0, 0, 0), (39, .invokestatic 50, 42, 3, 0, 0), (42, .aload_n 2, 43, 0, 2, 0), (43, .iload_n 3, 44, 0, 3, 0), (44, .putfield 31, 47, 0, 0, 4), (47, .aload_n 2, 48, 0, 2, 0), (48, .aload_n 0, 49, 0, 0, 0), (49, .getfield 60, 52, 0, 0, 3),
  (52, .putfield 60, 55, 0, 0, 3), (55, .aload_n 0, 56, 0, 0, 0), (56, .iload_n 1, 57, 0, 1, 0), (57, .putfield 31, 60, 0, 0, 4), (60, .return_, 61, 0, 0, 0)])
def m_Node_byteAt : gM := (⟨"ExtentTree$Node", "byteAt", "(I)I"⟩, prog_2_method_16_code, 3, (Option.some FieldType.int), 1, 22, [], [
  (0, .iload_n 1, 1, 0, 1, 0), (1, .iconst 3, 2, 3, 0, 0), (2, .iand, 3, 0, 0, 0), (3, .bipush 8, 5, 8, 0, 0), (5, .imul, 6, 0, 0, 0), (6, .istore_n 2, 7, 0, 2, 0), (7, .aload_n 0, 8, 0, 0, 0), (8, .iload_n 1, 9, 0, 1, 0),
  (9, .iconst 4, 10, 4, 0, 0), (10, .idiv, 11, 0, 0, 0), (11, .invokevirtual 63, 14, 0, 78, 1), (14, .iload_n 2, 15, 0, 2, 0), (15, .iushr, 16, 0, 0, 0), (16, .sipush 255, 19, 255, 0, 0), (19, .iand, 20, 0, 0, 0), (20, .ireturn, 21, 0, 0, 0)])
def m_Node_wordOfBytes : gM := (⟨"ExtentTree$Node", "wordOfBytes", "(I)I"⟩, prog_2_method_17_code, 3, (Option.some FieldType.int), 0, 0, [], [
  (0, .iload_n 1, 1, 0, 1, 0), (1, .ifCond .ne 14, 4, 0, 15, 0), (4, .ldc 66, 6, 62218, 0, 0), (6, .aload_n 0, 7, 0, 0, 0), (7, .getfield 31, 10, 0, 0, 4), (10, .bipush 16, 12, 16, 0, 0), (12, .ishl, 13, 0, 0, 0), (13, .ior, 14, 0, 0, 0),
  (14, .ireturn, 15, 0, 0, 0), (15, .iload_n 1, 16, 0, 1, 0), (16, .iconst 1, 17, 1, 0, 0), (17, .if_icmp .ne 16, 20, 0, 33, 0), (20, .aload_n 0, 21, 0, 0, 0), (21, .getfield 24, 24, 0, 0, 1), (24, .aload_n 0, 25, 0, 0, 0), (25, .getfield 60, 28, 0, 0, 3),
  (28, .bipush 16, 30, 16, 0, 0), (30, .ishl, 31, 0, 0, 0), (31, .ior, 32, 0, 0, 0), (32, .ireturn, 33, 0, 0, 0), (33, .iload_n 1, 34, 0, 1, 0), (34, .iconst 3, 35, 3, 0, 0), (35, .isub, 36, 0, 0, 0), (36, .istore_n 2, 37, 0, 2, 0),
  (37, .iload_n 2, 38, 0, 2, 0), (38, .ifCond .lt 31, 41, 0, 69, 0), (41, .iload_n 2, 42, 0, 2, 0), (42, .aload_n 0, 43, 0, 0, 0), (43, .getfield 31, 46, 0, 0, 4), (46, .iconst 3, 47, 3, 0, 0), (47, .imul, 48, 0, 0, 0), (48, .if_icmp .ge 21, 51, 0, 69, 0),
  (51, .iload_n 2, 52, 0, 2, 0), (52, .aload_n 0, 53, 0, 0, 0), (53, .getfield 27, 56, 0, 0, 5), (56, .arraylength, 57, 0, 0, 0), (57, .if_icmp .ge 12, 60, 0, 69, 0), (60, .aload_n 0, 61, 0, 0, 0), (61, .getfield 27, 64, 0, 0, 5), (64, .iload_n 2, 65, 0, 2, 0),
  (65, .iaload, 66, 0, 0, 0), (66, .goto 4, 69, 0, 70, 0), (69, .iconst 0, 70, 0, 0, 0), (70, .ireturn, 71, 0, 0, 0)])
def m_Pool_init : gM := (⟨"ExtentTree$Pool", "<init>", "(I)V"⟩, prog_3_method_1_code, 3, (none : Option FieldType), 2, 43, [], [
  (0, .aload_n 0, 1, 0, 0, 0), (1, .invokespecial 3, 4, 1, 0, 0), (4, .aload_n 0, 5, 0, 0, 0), (5, .sipush 255, 8, 255, 0, 0), (8, .putfield 9, 11, 0, 1, 0), (11, .aload_n 0, 12, 0, 0, 0), (12, .sipush 256, 15, 256, 0, 0), (15, .anewarray 15, 18, 0, 2, 0),
  (18, .putfield 17, 21, 0, 1, 1), (21, .iconst 0, 22, 0, 0, 0), (22, .istore_n 2, 23, 0, 2, 0), (23, .iload_n 2, 24, 0, 2, 0), (24, .sipush 256, 27, 256, 0, 0), (27, .if_icmp .ge 24, 30, 0, 51, 0), (30, .aload_n 0, 31, 0, 0, 0), (31, .getfield 17, 34, 0, 1, 1),
  (34, .iload_n 2, 35, 0, 2, 0), (35, .new 15, 38, 0, 0, 0), (38, .dup, 39, 0, 0, 0), (39, .iload_n 2, 40, 0, 2, 0), (40, .iload_n 1, 41, 0, 1, 0), (41, .invokespecial 21, 44, 0, 62, 2), (44, .aastore, 45, 0, 0, 0), (45, .iinc 2 1, 48, 1, 2, 0),
  (48, .goto (-25), 51, 0, 23, 0), (51, .return_, 52, 0, 0, 0)])
def m_Pool_node : gM := (⟨"ExtentTree$Pool", "node", "(I)LExtentTree$Node;"⟩, prog_3_method_2_code, 2, (Option.some (FieldType.object "ExtentTree$Node")), 0, 0, [], [
  (0, .iload_n 1, 1, 0, 1, 0), (1, .ifCond .lt 19, 4, 0, 20, 0), (4, .iload_n 1, 5, 0, 1, 0), (5, .sipush 256, 8, 256, 0, 0), (8, .if_icmp .ge 12, 11, 0, 20, 0), (11, .aload_n 0, 12, 0, 0, 0), (12, .getfield 17, 15, 0, 1, 1), (15, .iload_n 1, 16, 0, 1, 0),
  (16, .aaload, 17, 0, 0, 0), (17, .goto 9, 20, 0, 26, 0), (20, .aload_n 0, 21, 0, 0, 0), (21, .getfield 17, 24, 0, 1, 1), (24, .iconst 0, 25, 0, 0, 0), (25, .aaload, 26, 0, 0, 0), (26, .areturn, 27, 0, 0, 0)])
def m_Pool_isTaken : gM := (⟨"ExtentTree$Pool", "isTaken", "(I)Z"⟩, prog_3_method_3_code, 2, (Option.some FieldType.boolean), 1, 21, [], [
  (0, .aload_n 0, 1, 0, 0, 0), (1, .iload_n 1, 2, 0, 1, 0), (2, .invokevirtual 24, 5, 0, 80, 1), (5, .getfield 28, 8, 0, 0, 2), (8, .ireturn, 9, 0, 0, 0)])
def m_Pool_takeLeast : gM := (⟨"ExtentTree$Pool", "takeLeast", "()LExtentTree$Node;"⟩, prog_3_method_4_code, 3, (Option.some (FieldType.object "ExtentTree$Node")), 0, 0, [], [
  (0, .iconst 1, 1, 1, 0, 0), (1, .istore_n 1, 2, 0, 1, 0), (2, .iload_n 1, 3, 0, 1, 0), (3, .sipush 256, 6, 256, 0, 0), (6, .if_icmp .ge 40, 9, 0, 46, 0), (9, .aload_n 0, 10, 0, 0, 0), (10, .getfield 17, 13, 0, 1, 1), (13, .iload_n 1, 14, 0, 1, 0),
  (14, .aaload, 15, 0, 0, 0), (15, .astore_n 2, 16, 0, 2, 0), (16, .aload_n 2, 17, 0, 2, 0), (17, .getfield 28, 20, 0, 0, 2), (20, .ifCond .ne 20, 23, 0, 40, 0), (23, .aload_n 2, 24, 0, 2, 0), (24, .iconst 1, 25, 1, 0, 0), (25, .putfield 28, 28, 0, 0, 2),
  (28, .aload_n 0, 29, 0, 0, 0), (29, .dup, 30, 0, 0, 0), (30, .getfield 9, 33, 0, 1, 0), (33, .iconst 1, 34, 1, 0, 0), (34, .isub, 35, 0, 0, 0), (35, .putfield 9, 38, 0, 1, 0), (38, .aload_n 2, 39, 0, 2, 0), (39, .areturn, 40, 0, 0, 0),
  (40, .iinc 1 1, 43, 1, 1, 0), (43, .goto (-41), 46, 0, 2, 0), (46, .aload_n 0, 47, 0, 0, 0), (47, .getfield 17, 50, 0, 1, 1), (50, .iconst 0, 51, 0, 0, 0), (51, .aaload, 52, 0, 0, 0), (52, .areturn, 53, 0, 0, 0)])
def m_Pool_giveBack : gM := (⟨"ExtentTree$Pool", "giveBack", "(LExtentTree$Node;)V"⟩, prog_3_method_5_code, 2, (none : Option FieldType), 0, 0, [], [
  (0, .aload_n 1, 1, 0, 1, 0), (1, .getfield 28, 4, 0, 0, 2), (4, .ifCond .eq 23, 7, 0, 27, 0), (7, .aload_n 1, 8, 0, 1, 0), (8, .iconst 0, 9, 0, 0, 0), (9, .putfield 28, 12, 0, 0, 2), (12, .aload_n 1, 13, 0, 1, 0), (13, .iconst 0, 14, 0, 0, 0),
  (14, .putfield 32, 17, 0, 0, 4), (17, .aload_n 0, 18, 0, 0, 0), (18, .dup, 19, 0, 0, 0), (19, .getfield 9, 22, 0, 1, 0), (22, .iconst 1, 23, 1, 0, 0), (23, .iadd, 24, 0, 0, 0), (24, .putfield 9, 27, 0, 1, 0), (27, .return_, 28, 0, 0, 0)])
def m_Tree_init : gM := (⟨"ExtentTree$Tree", "<init>", "(LExtentTree$Pool;)V"⟩, prog_4_method_1_code, 3, (none : Option FieldType), 2, 43, [], [
  (0, .aload_n 0, 1, 0, 0, 0), (1, .invokespecial 3, 4, 1, 0, 0), (4, .aload_n 0, 5, 0, 0, 0), (5, .aload_n 1, 6, 0, 1, 0), (6, .putfield 9, 9, 0, 2, 6), (9, .aload_n 0, 10, 0, 0, 0), (10, .new 15, 13, 0, 0, 0), (13, .dup, 14, 0, 0, 0),
  (14, .iconst 0, 15, 0, 0, 0), (15, .iconst 4, 16, 4, 0, 0), (16, .invokespecial 17, 19, 0, 62, 2), (19, .putfield 20, 22, 0, 2, 0), (22, .aload_n 0, 23, 0, 0, 0), (23, .bipush 6, 25, 6, 0, 0), (25, .anewarray 15, 28, 0, 2, 0), (28, .putfield 24, 31, 0, 2, 7),
  (31, .aload_n 0, 32, 0, 0, 0), (32, .bipush 6, 34, 6, 0, 0), (34, .newarray .int, 36, 0, 0, 0), (36, .putfield 28, 39, 0, 2, 8), (39, .aload_n 0, 40, 0, 0, 0), (40, .bipush 6, 42, 6, 0, 0), (42, .anewarray 15, 45, 0, 2, 0), (45, .putfield 32, 48, 0, 2, 10),
  (48, .iconst 0, 49, 0, 0, 0), (49, .istore_n 2, 50, 0, 2, 0), (50, .iload_n 2, 51, 0, 2, 0), (51, .bipush 6, 53, 6, 0, 0), (53, .if_icmp .ge 29, 56, 0, 82, 0), (56, .aload_n 0, 57, 0, 0, 0), (57, .getfield 24, 60, 0, 2, 7), (60, .iload_n 2, 61, 0, 2, 0),
  (61, .aload_n 0, 62, 0, 0, 0), (62, .getfield 20, 65, 0, 2, 0), (65, .aastore, 66, 0, 0, 0), (66, .aload_n 0, 67, 0, 0, 0), (67, .getfield 32, 70, 0, 2, 10), (70, .iload_n 2, 71, 0, 2, 0), (71, .aload_n 0, 72, 0, 0, 0), (72, .getfield 20, 75, 0, 2, 0),
  (75, .aastore, 76, 0, 0, 0), (76, .iinc 2 1, 79, 1, 2, 0), (79, .goto (-29), 82, 0, 50, 0), (82, .return_, 83, 0, 0, 0)])
def m_Tree_leaves : gM := (⟨"ExtentTree$Tree", "leaves", "()I"⟩, prog_4_method_2_code, 1, (Option.some FieldType.int), 0, 0, [], [
  (0, .aload_n 0, 1, 0, 0, 0), (1, .getfield 20, 4, 0, 2, 0), (4, .getfield 35, 7, 0, 0, 3), (7, .ifCond .ne 7, 10, 0, 14, 0), (10, .iconst 1, 11, 1, 0, 0), (11, .goto 7, 14, 0, 18, 0), (14, .aload_n 0, 15, 0, 0, 0), (15, .getfield 39, 18, 0, 2, 5),
  (18, .ireturn, 19, 0, 0, 0)])
def m_Tree_roomForOne : gM := (⟨"ExtentTree$Tree", "roomForOne", "()Z"⟩, prog_4_method_3_code, 1, (Option.some FieldType.boolean), 1, 20, [], [
  (0, .aload_n 0, 1, 0, 0, 0), (1, .getfield 9, 4, 0, 2, 6), (4, .getfield 42, 7, 0, 1, 0), (7, .aload_n 0, 8, 0, 0, 0), (8, .getfield 20, 11, 0, 2, 0), (11, .getfield 35, 14, 0, 0, 3), (14, .iconst 1, 15, 1, 0, 0), (15, .iadd, 16, 0, 0, 0),
  (16, .if_icmp .lt 28, 19, 0, 44, 0), (19, .aload_n 0, 20, 0, 0, 0), (20, .getfield 20, 23, 0, 2, 0), (23, .getfield 35, 26, 0, 0, 3), (26, .iconst 5, 27, 5, 0, 0), (27, .if_icmp .lt 13, 30, 0, 40, 0), (30, .aload_n 0, 31, 0, 0, 0), (31, .getfield 20, 34, 0, 2, 0),
  (34, .invokevirtual 47, 37, 0, 63, 0), (37, .ifCond .ne 7, 40, 0, 44, 0), (40, .iconst 1, 41, 1, 0, 0), (41, .goto 4, 44, 0, 45, 0), (44, .iconst 0, 45, 0, 0, 0), (45, .ireturn, 46, 0, 0, 0)])
def m_Tree_roomForTwo : gM := (⟨"ExtentTree$Tree", "roomForTwo", "()Z"⟩, prog_4_method_4_code, 1, (Option.some FieldType.boolean), 1, 20, [], [
  (0, .aload_n 0, 1, 0, 0, 0), (1, .getfield 9, 4, 0, 2, 6), (4, .getfield 42, 7, 0, 1, 0), (7, .iconst 2, 8, 2, 0, 0), (8, .aload_n 0, 9, 0, 0, 0), (9, .getfield 20, 12, 0, 2, 0), (12, .getfield 35, 15, 0, 0, 3), (15, .imul, 16, 0, 0, 0),
  (16, .iconst 3, 17, 3, 0, 0), (17, .iadd, 18, 0, 0, 0), (18, .if_icmp .lt 28, 21, 0, 46, 0), (21, .aload_n 0, 22, 0, 0, 0), (22, .getfield 20, 25, 0, 2, 0), (25, .getfield 35, 28, 0, 0, 3), (28, .iconst 4, 29, 4, 0, 0), (29, .if_icmp .lt 13, 32, 0, 42, 0),
  (32, .aload_n 0, 33, 0, 0, 0), (33, .getfield 20, 36, 0, 2, 0), (36, .invokevirtual 47, 39, 0, 63, 0), (39, .ifCond .ne 7, 42, 0, 46, 0), (42, .iconst 1, 43, 1, 0, 0), (43, .goto 4, 46, 0, 47, 0), (46, .iconst 0, 47, 0, 0, 0), (47, .ireturn, 48, 0, 0, 0)])
def m_Tree_find : gM := (⟨"ExtentTree$Tree", "find", "(I)V"⟩, prog_4_method_5_code, 5, (none : Option FieldType), 4, 88, [], [
  (0, .aload_n 0, 1, 0, 0, 0), (1, .getfield 20, 4, 0, 2, 0), (4, .astore_n 2, 5, 0, 2, 0), (5, .iconst 0, 6, 0, 0, 0), (6, .istore_n 3, 7, 0, 3, 0), (7, .iload_n 3, 8, 0, 3, 0), (8, .bipush 6, 10, 6, 0, 0), (10, .if_icmp .ge 74, 13, 0, 84, 0),
  (13, .aload_n 2, 14, 0, 2, 0), (14, .iload_n 1, 15, 0, 1, 0), (15, .invokevirtual 51, 18, 0, 73, 1), (18, .istore 4, 20, 0, 4, 0), (20, .aload_n 0, 21, 0, 0, 0), (21, .getfield 24, 24, 0, 2, 7), (24, .iload_n 3, 25, 0, 3, 0), (25, .aload_n 2, 26, 0, 2, 0),
  (26, .aastore, 27, 0, 0, 0), (27, .aload_n 0, 28, 0, 0, 0), (28, .getfield 28, 31, 0, 2, 8), (31, .iload_n 3, 32, 0, 3, 0), (32, .iload 4, 34, 0, 4, 0), (34, .iastore, 35, 0, 0, 0), (35, .aload_n 0, 36, 0, 0, 0), (36, .iload_n 3, 37, 0, 3, 0),
  (37, .putfield 55, 40, 0, 2, 9), (40, .aload_n 2, 41, 0, 2, 0), (41, .getfield 35, 44, 0, 0, 3), (44, .ifCond .ne 4, 47, 0, 48, 0), (47, .return_, 48, 0, 0, 0), (48, .aload_n 0, 49, 0, 0, 0), (49, .getfield 28, 52, 0, 2, 8), (52, .iload_n 3, 53, 0, 3, 0),
  (53, .iconst 0, 54, 0, 0, 0), (54, .iload 4, 56, 0, 4, 0), (56, .invokestatic 58, 59, 1, 0, 0), (59, .iastore, 60, 0, 0, 0), (60, .aload_n 0, 61, 0, 0, 0), (61, .getfield 9, 64, 0, 2, 6), (64, .aload_n 2, 65, 0, 2, 0), (65, .aload_n 0, 66, 0, 0, 0),
  (66, .getfield 28, 69, 0, 2, 8), (69, .iload_n 3, 70, 0, 3, 0), (70, .iaload, 71, 0, 0, 0), (71, .invokevirtual 64, 74, 0, 67, 1), (74, .invokevirtual 67, 77, 0, 80, 1), (77, .astore_n 2, 78, 0, 2, 0), (78, .iinc 3 1, 81, 1, 3, 0), (81, .goto (-74), 84, 0, 7, 0),
  (84, .return_, 85, 0, 0, 0)])
def m_Tree_runFirst : gM := (⟨"ExtentTree$Tree", "runFirst", "()I"⟩, prog_4_method_6_code, 1, (Option.some FieldType.int), 3, 64, [], [
  (0, .aload_n 0, 1, 0, 0, 0), (1, .getfield 24, 4, 0, 2, 7), (4, .aload_n 0, 5, 0, 0, 0), (5, .getfield 55, 8, 0, 2, 9), (8, .aaload, 9, 0, 0, 0), (9, .aload_n 0, 10, 0, 0, 0), (10, .getfield 28, 13, 0, 2, 8), (13, .aload_n 0, 14, 0, 0, 0),
  (14, .getfield 55, 17, 0, 2, 9), (17, .iaload, 18, 0, 0, 0), (18, .invokevirtual 71, 21, 0, 66, 1), (21, .ireturn, 22, 0, 0, 0)])
def m_Tree_runLength : gM := (⟨"ExtentTree$Tree", "runLength", "()I"⟩, prog_4_method_7_code, 1, (Option.some FieldType.int), 3, 65, [], [
  (0, .aload_n 0, 1, 0, 0, 0), (1, .getfield 24, 4, 0, 2, 7), (4, .aload_n 0, 5, 0, 0, 0), (5, .getfield 55, 8, 0, 2, 9), (8, .aaload, 9, 0, 0, 0), (9, .aload_n 0, 10, 0, 0, 0), (10, .getfield 28, 13, 0, 2, 8), (13, .aload_n 0, 14, 0, 0, 0),
  (14, .getfield 55, 17, 0, 2, 9), (17, .iaload, 18, 0, 0, 0), (18, .invokevirtual 74, 21, 0, 68, 1), (21, .ireturn, 22, 0, 0, 0)])
def m_Tree_runEnd : gM := (⟨"ExtentTree$Tree", "runEnd", "()I"⟩, prog_4_method_8_code, 1, (Option.some FieldType.int), 4, 85, [], [
  (0, .aload_n 0, 1, 0, 0, 0), (1, .invokevirtual 77, 4, 0, 89, 0), (4, .aload_n 0, 5, 0, 0, 0), (5, .invokevirtual 81, 8, 0, 90, 0), (8, .iadd, 9, 0, 0, 0), (9, .ireturn, 10, 0, 0, 0)])
def m_Tree_runVolume : gM := (⟨"ExtentTree$Tree", "runVolume", "()I"⟩, prog_4_method_9_code, 1, (Option.some FieldType.int), 3, 64, [], [
  (0, .aload_n 0, 1, 0, 0, 0), (1, .getfield 24, 4, 0, 2, 7), (4, .aload_n 0, 5, 0, 0, 0), (5, .getfield 55, 8, 0, 2, 9), (8, .aaload, 9, 0, 0, 0), (9, .aload_n 0, 10, 0, 0, 0), (10, .getfield 28, 13, 0, 2, 8), (13, .aload_n 0, 14, 0, 0, 0),
  (14, .getfield 55, 17, 0, 2, 9), (17, .iaload, 18, 0, 0, 0), (18, .invokevirtual 84, 21, 0, 70, 1), (21, .ireturn, 22, 0, 0, 0)])
def m_Tree_runIsWritten : gM := (⟨"ExtentTree$Tree", "runIsWritten", "()Z"⟩, prog_4_method_10_code, 1, (Option.some FieldType.boolean), 3, 64, [], [
  (0, .aload_n 0, 1, 0, 0, 0), (1, .getfield 24, 4, 0, 2, 7), (4, .aload_n 0, 5, 0, 0, 0), (5, .getfield 55, 8, 0, 2, 9), (8, .aaload, 9, 0, 0, 0), (9, .aload_n 0, 10, 0, 0, 0), (10, .getfield 28, 13, 0, 2, 8), (13, .aload_n 0, 14, 0, 0, 0),
  (14, .getfield 55, 17, 0, 2, 9), (17, .iaload, 18, 0, 0, 0), (18, .invokevirtual 87, 21, 0, 69, 1), (21, .ireturn, 22, 0, 0, 0)])
def m_Tree_setRun : gM := (⟨"ExtentTree$Tree", "setRun", "(IIIZ)V"⟩, prog_4_method_11_code, 5, (none : Option FieldType), 4, 86, [], [
  (0, .aload_n 0, 1, 0, 0, 0), (1, .getfield 24, 4, 0, 2, 7), (4, .aload_n 0, 5, 0, 0, 0), (5, .getfield 55, 8, 0, 2, 9), (8, .aaload, 9, 0, 0, 0), (9, .aload_n 0, 10, 0, 0, 0), (10, .getfield 28, 13, 0, 2, 8), (13, .aload_n 0, 14, 0, 0, 0),
  (14, .getfield 55, 17, 0, 2, 9), (17, .iaload, 18, 0, 0, 0), (18, .iload_n 1, 19, 0, 1, 0), (19, .iload_n 2, 20, 0, 2, 0), (20, .iload 4, 22, 0, 4, 0), (22, .invokestatic 91, 25, 0, 95, 2), (25, .iload_n 3, 26, 0, 3, 0), (26, .invokevirtual 95, 29, 0, 72, 4),
  (29, .aload_n 0, 30, 0, 0, 0), (30, .aload_n 0, 31, 0, 0, 0), (31, .getfield 55, 34, 0, 2, 9), (34, .invokevirtual 99, 37, 0, 113, 1), (37, .return_, 38, 0, 0, 0)])
def m_Tree_marked : gM := (⟨"ExtentTree$Tree", "marked", "(IZ)I"⟩, prog_4_method_12_code, 2, (Option.some FieldType.int), 0, 0, [], [
  (0, .iload_n 1, 1, 0, 1, 0), (1, .ifCond .eq 7, 4, 0, 8, 0), (4, .iload_n 0, 5, 0, 0, 0), (5, .goto 7, 8, 0, 12, 0), (8, .iload_n 0, 9, 0, 0, 0), (9, .ldc 103, 11, 32768, 0, 0), (11, .iadd, 12, 0, 0, 0), (12, .ireturn, 13, 0, 0, 0)])
def m_Tree_nextFirst : gM := (⟨"ExtentTree$Tree", "nextFirst", "()I"⟩, prog_4_method_13_code, 3, (Option.some FieldType.int), 3, 64, [], [
  (0, .aload_n 0, 1, 0, 0, 0), (1, .getfield 55, 4, 0, 2, 9), (4, .istore_n 1, 5, 0, 1, 0), (5, .iload_n 1, 6, 0, 1, 0), (6, .ifCond .lt 42, 9, 0, 48, 0), (9, .aload_n 0, 10, 0, 0, 0), (10, .getfield 28, 13, 0, 2, 8), (13, .iload_n 1, 14, 0, 1, 0),
  (14, .iaload, 15, 0, 0, 0), (15, .iconst 1, 16, 1, 0, 0), (16, .iadd, 17, 0, 0, 0), (17, .istore_n 2, 18, 0, 2, 0), (18, .aload_n 0, 19, 0, 0, 0), (19, .getfield 24, 22, 0, 2, 7), (22, .iload_n 1, 23, 0, 1, 0), (23, .aaload, 24, 0, 0, 0),
  (24, .iload_n 2, 25, 0, 2, 0), (25, .invokevirtual 104, 28, 0, 64, 1), (28, .ifCond .eq 14, 31, 0, 42, 0), (31, .aload_n 0, 32, 0, 0, 0), (32, .getfield 24, 35, 0, 2, 7), (35, .iload_n 1, 36, 0, 1, 0), (36, .aaload, 37, 0, 0, 0), (37, .iload_n 2, 38, 0, 2, 0),
  (38, .invokevirtual 71, 41, 0, 66, 1), (41, .ireturn, 42, 0, 0, 0), (42, .iinc 1 (-1), 45, (-1), 1, 0), (45, .goto (-40), 48, 0, 5, 0), (48, .ldc 107, 50, 65536, 0, 0), (50, .ireturn, 51, 0, 0, 0)])
def m_Tree_hasAny : gM := (⟨"ExtentTree$Tree", "hasAny", "(II)Z"⟩, prog_4_method_14_code, 3, (Option.some FieldType.boolean), 5, 112, [], [
  (0, .aload_n 0, 1, 0, 0, 0), (1, .iload_n 1, 2, 0, 1, 0), (2, .iload_n 2, 3, 0, 2, 0), (3, .iadd, 4, 0, 0, 0), (4, .iconst 1, 5, 1, 0, 0), (5, .isub, 6, 0, 0, 0), (6, .invokevirtual 108, 9, 0, 88, 1), (9, .aload_n 0, 10, 0, 0, 0),
  (10, .invokevirtual 111, 13, 0, 91, 0), (13, .iload_n 1, 14, 0, 1, 0), (14, .if_icmp .le 7, 17, 0, 21, 0), (17, .iconst 1, 18, 1, 0, 0), (18, .goto 4, 21, 0, 22, 0), (21, .iconst 0, 22, 0, 0, 0), (22, .ireturn, 23, 0, 0, 0)])
def m_Tree_hasUnwritten : gM := (⟨"ExtentTree$Tree", "hasUnwritten", "(II)Z"⟩, prog_4_method_15_code, 3, (Option.some FieldType.boolean), 5, 112, [], [
  (0, .aload_n 0, 1, 0, 0, 0), (1, .iload_n 1, 2, 0, 1, 0), (2, .invokevirtual 108, 5, 0, 88, 1), (5, .aload_n 0, 6, 0, 0, 0), (6, .invokevirtual 111, 9, 0, 91, 0), (9, .iload_n 1, 10, 0, 1, 0), (10, .iload_n 2, 11, 0, 2, 0), (11, .iadd, 12, 0, 0, 0),
  (12, .if_icmp .lt 14, 15, 0, 26, 0), (15, .aload_n 0, 16, 0, 0, 0), (16, .invokevirtual 114, 19, 0, 93, 0), (19, .ifCond .ne 7, 22, 0, 26, 0), (22, .iconst 1, 23, 1, 0, 0), (23, .goto 4, 26, 0, 27, 0), (26, .iconst 0, 27, 0, 0, 0), (27, .ireturn, 28, 0, 0, 0)])
def m_Tree_volumeOf : gM := (⟨"ExtentTree$Tree", "volumeOf", "(I)I"⟩, prog_4_method_16_code, 2, (Option.some FieldType.int), 5, 112, [], [
  (0, .aload_n 0, 1, 0, 0, 0), (1, .iload_n 1, 2, 0, 1, 0), (2, .invokevirtual 108, 5, 0, 88, 1), (5, .aload_n 0, 6, 0, 0, 0), (6, .invokevirtual 111, 9, 0, 91, 0), (9, .iload_n 1, 10, 0, 1, 0), (10, .if_icmp .le 17, 13, 0, 27, 0), (13, .aload_n 0, 14, 0, 0, 0),
  (14, .invokevirtual 117, 17, 0, 92, 0), (17, .iload_n 1, 18, 0, 1, 0), (18, .aload_n 0, 19, 0, 0, 0), (19, .invokevirtual 77, 22, 0, 89, 0), (22, .isub, 23, 0, 0, 0), (23, .iadd, 24, 0, 0, 0), (24, .goto 4, 27, 0, 28, 0), (27, .iconst (-1), 28, (-1), 0, 0),
  (28, .ireturn, 29, 0, 0, 0)])
def m_Tree_isWritten : gM := (⟨"ExtentTree$Tree", "isWritten", "(I)Z"⟩, prog_4_method_17_code, 2, (Option.some FieldType.boolean), 5, 112, [], [
  (0, .aload_n 0, 1, 0, 0, 0), (1, .iload_n 1, 2, 0, 1, 0), (2, .invokevirtual 108, 5, 0, 88, 1), (5, .aload_n 0, 6, 0, 0, 0), (6, .invokevirtual 111, 9, 0, 91, 0), (9, .iload_n 1, 10, 0, 1, 0), (10, .if_icmp .le 14, 13, 0, 24, 0), (13, .aload_n 0, 14, 0, 0, 0),
  (14, .invokevirtual 114, 17, 0, 93, 0), (17, .ifCond .eq 7, 20, 0, 24, 0), (20, .iconst 1, 21, 1, 0, 0), (21, .goto 4, 24, 0, 25, 0), (24, .iconst 0, 25, 0, 0, 0), (25, .ireturn, 26, 0, 0, 0)])
def m_Tree_alikeFrom : gM := (⟨"ExtentTree$Tree", "alikeFrom", "(I)I"⟩, prog_4_method_18_code, 2, (Option.some FieldType.int), 5, 112, [], [
  (0, .aload_n 0, 1, 0, 0, 0), (1, .iload_n 1, 2, 0, 1, 0), (2, .invokevirtual 108, 5, 0, 88, 1), (5, .aload_n 0, 6, 0, 0, 0), (6, .invokevirtual 111, 9, 0, 91, 0), (9, .iload_n 1, 10, 0, 1, 0), (10, .if_icmp .le 10, 13, 0, 20, 0), (13, .aload_n 0, 14, 0, 0, 0),
  (14, .invokevirtual 111, 17, 0, 91, 0), (17, .goto 7, 20, 0, 24, 0), (20, .aload_n 0, 21, 0, 0, 0), (21, .invokevirtual 120, 24, 0, 96, 0), (24, .iload_n 1, 25, 0, 1, 0), (25, .isub, 26, 0, 0, 0), (26, .ireturn, 27, 0, 0, 0)])
def m_Tree_putIn : gM := (⟨"ExtentTree$Tree", "putIn", "(IIIZ)V"⟩, prog_4_method_19_code, 7, (none : Option FieldType), 6, 139, [], [
  (0, .aload_n 0, 1, 0, 0, 0), (1, .iload_n 2, 2, 0, 2, 0), (2, .iload 4, 4, 0, 4, 0), (4, .invokevirtual 123, 7, 0, 107, 2), (7, .aload_n 0, 8, 0, 0, 0), (8, .iload_n 1, 9, 0, 1, 0), (9, .iload_n 2, 10, 0, 2, 0), (10, .iload_n 3, 11, 0, 3, 0),
  (11, .iload 4, 13, 0, 4, 0), (13, .invokevirtual 127, 16, 0, 103, 4), (16, .istore 5, 18, 0, 5, 0), (18, .aload_n 0, 19, 0, 0, 0), (19, .iload_n 1, 20, 0, 1, 0), (20, .iload_n 2, 21, 0, 2, 0), (21, .iload_n 3, 22, 0, 3, 0), (22, .iload 4, 24, 0, 4, 0),
  (24, .iload 5, 26, 0, 5, 0), (26, .invokevirtual 131, 29, 0, 104, 5), (29, .istore 6, 31, 0, 6, 0), (31, .iload 5, 33, 0, 5, 0), (33, .ifCond .ne 21, 36, 0, 54, 0), (36, .iload 6, 38, 0, 6, 0), (38, .ifCond .le 16, 41, 0, 54, 0), (41, .aload_n 0, 42, 0, 0, 0),
  (42, .iload_n 1, 43, 0, 1, 0), (43, .iload_n 2, 44, 0, 2, 0), (44, .iload 6, 46, 0, 6, 0), (46, .iadd, 47, 0, 0, 0), (47, .iload_n 3, 48, 0, 3, 0), (48, .iload 4, 50, 0, 4, 0), (50, .invokevirtual 135, 53, 0, 94, 4), (53, .return_, 54, 0, 0, 0),
  (54, .iload 6, 56, 0, 6, 0), (56, .ifCond .le 7, 59, 0, 63, 0), (59, .aload_n 0, 60, 0, 0, 0), (60, .invokevirtual 139, 63, 0, 112, 0), (63, .aload_n 0, 64, 0, 0, 0), (64, .iload_n 1, 65, 0, 1, 0), (65, .invokevirtual 108, 68, 0, 88, 1), (68, .iload 5, 70, 0, 5, 0),
  (70, .ifCond .le 27, 73, 0, 97, 0), (73, .aload_n 0, 74, 0, 0, 0), (74, .aload_n 0, 75, 0, 0, 0), (75, .invokevirtual 77, 78, 0, 89, 0), (78, .iload 5, 80, 0, 5, 0), (80, .iload_n 2, 81, 0, 2, 0), (81, .iadd, 82, 0, 0, 0), (82, .iload 6, 84, 0, 6, 0),
  (84, .iadd, 85, 0, 0, 0), (85, .aload_n 0, 86, 0, 0, 0), (86, .invokevirtual 117, 89, 0, 92, 0), (89, .iload 4, 91, 0, 4, 0), (91, .invokevirtual 135, 94, 0, 94, 4), (94, .goto 12, 97, 0, 106, 0), (97, .aload_n 0, 98, 0, 0, 0), (98, .iload_n 1, 99, 0, 1, 0),
  (99, .iload_n 2, 100, 0, 2, 0), (100, .iload_n 3, 101, 0, 3, 0), (101, .iload 4, 103, 0, 4, 0), (103, .invokevirtual 142, 106, 0, 108, 4), (106, .return_, 107, 0, 0, 0)])
def m_Tree_lengthToJoinBefore : gM := (⟨"ExtentTree$Tree", "lengthToJoinBefore", "(IIIZ)I"⟩, prog_4_method_20_code, 7, (Option.some FieldType.int), 5, 112, [], [
  (0, .aload_n 0, 1, 0, 0, 0), (1, .iload_n 1, 2, 0, 1, 0), (2, .invokevirtual 108, 5, 0, 88, 1), (5, .aload_n 0, 6, 0, 0, 0), (6, .invokevirtual 81, 9, 0, 90, 0), (9, .istore 5, 11, 0, 5, 0), (11, .iload 5, 13, 0, 5, 0), (13, .ifCond .le 26, 16, 0, 39, 0),
  (16, .aload_n 0, 17, 0, 0, 0), (17, .invokevirtual 111, 20, 0, 91, 0), (20, .iload_n 1, 21, 0, 1, 0), (21, .if_icmp .ne 18, 24, 0, 39, 0), (24, .aload_n 0, 25, 0, 0, 0), (25, .invokevirtual 117, 28, 0, 92, 0), (28, .iload 5, 30, 0, 5, 0), (30, .iadd, 31, 0, 0, 0),
  (31, .iload_n 3, 32, 0, 3, 0), (32, .if_icmp .ne 7, 35, 0, 39, 0), (35, .iconst 1, 36, 1, 0, 0), (36, .goto 4, 39, 0, 40, 0), (39, .iconst 0, 40, 0, 0, 0), (40, .istore 6, 42, 0, 6, 0), (42, .iload 6, 44, 0, 6, 0), (44, .ifCond .eq 29, 47, 0, 73, 0),
  (47, .aload_n 0, 48, 0, 0, 0), (48, .invokevirtual 114, 51, 0, 93, 0), (51, .iload 4, 53, 0, 4, 0), (53, .if_icmp .ne 20, 56, 0, 73, 0), (56, .iload 5, 58, 0, 5, 0), (58, .iload_n 2, 59, 0, 2, 0), (59, .iadd, 60, 0, 0, 0), (60, .iload 4, 62, 0, 4, 0),
  (62, .invokestatic 145, 65, 4, 17, 1), (65, .if_icmp .gt 8, 68, 0, 73, 0), (68, .iload 5, 70, 0, 5, 0), (70, .goto 4, 73, 0, 74, 0), (73, .iconst 0, 74, 0, 0, 0), (74, .ireturn, 75, 0, 0, 0)])
def m_Tree_lengthToJoinBehind : gM := (⟨"ExtentTree$Tree", "lengthToJoinBehind", "(IIIZI)I"⟩, prog_4_method_21_code, 8, (Option.some FieldType.int), 5, 112, [], [
  (0, .aload_n 0, 1, 0, 0, 0), (1, .iload_n 1, 2, 0, 1, 0), (2, .iload_n 2, 3, 0, 2, 0), (3, .iadd, 4, 0, 0, 0), (4, .invokevirtual 108, 7, 0, 88, 1), (7, .aload_n 0, 8, 0, 0, 0), (8, .invokevirtual 81, 11, 0, 90, 0), (11, .istore 6, 13, 0, 6, 0),
  (13, .iload 6, 15, 0, 6, 0), (15, .ifCond .le 27, 18, 0, 42, 0), (18, .aload_n 0, 19, 0, 0, 0), (19, .invokevirtual 77, 22, 0, 89, 0), (22, .iload_n 1, 23, 0, 1, 0), (23, .iload_n 2, 24, 0, 2, 0), (24, .iadd, 25, 0, 0, 0), (25, .if_icmp .ne 17, 28, 0, 42, 0),
  (28, .aload_n 0, 29, 0, 0, 0), (29, .invokevirtual 117, 32, 0, 92, 0), (32, .iload_n 3, 33, 0, 3, 0), (33, .iload_n 2, 34, 0, 2, 0), (34, .iadd, 35, 0, 0, 0), (35, .if_icmp .ne 7, 38, 0, 42, 0), (38, .iconst 1, 39, 1, 0, 0), (39, .goto 4, 42, 0, 43, 0),
  (42, .iconst 0, 43, 0, 0, 0), (43, .istore 7, 45, 0, 7, 0), (45, .iload 7, 47, 0, 7, 0), (47, .ifCond .eq 32, 50, 0, 79, 0), (50, .aload_n 0, 51, 0, 0, 0), (51, .invokevirtual 114, 54, 0, 93, 0), (54, .iload 4, 56, 0, 4, 0), (56, .if_icmp .ne 23, 59, 0, 79, 0),
  (59, .iload 5, 61, 0, 5, 0), (61, .iload_n 2, 62, 0, 2, 0), (62, .iadd, 63, 0, 0, 0), (63, .iload 6, 65, 0, 6, 0), (65, .iadd, 66, 0, 0, 0), (66, .iload 4, 68, 0, 4, 0), (68, .invokestatic 145, 71, 4, 17, 1), (71, .if_icmp .gt 8, 74, 0, 79, 0),
  (74, .iload 6, 76, 0, 6, 0), (76, .goto 4, 79, 0, 80, 0), (79, .iconst 0, 80, 0, 0, 0), (80, .ireturn, 81, 0, 0, 0)])
def m_Tree_takeOutAll : gM := (⟨"ExtentTree$Tree", "takeOutAll", "(II)I"⟩, prog_4_method_22_code, 7, (Option.some FieldType.int), 6, 149, [], [
  (0, .iconst 0, 1, 0, 0, 0), (1, .istore_n 3, 2, 0, 3, 0), (2, .iload_n 1, 3, 0, 1, 0), (3, .istore 4, 5, 0, 4, 0), (5, .iconst 0, 6, 0, 0, 0), (6, .istore 5, 8, 0, 5, 0), (8, .iload 5, 10, 0, 5, 0), (10, .ldc 107, 12, 65536, 0, 0),
  (12, .if_icmp .ge 72, 15, 0, 84, 0), (15, .iload 4, 17, 0, 4, 0), (17, .iload_n 2, 18, 0, 2, 0), (18, .if_icmp .ge 66, 21, 0, 84, 0), (21, .aload_n 0, 22, 0, 0, 0), (22, .iload 4, 24, 0, 4, 0), (24, .invokevirtual 108, 27, 0, 88, 1), (27, .aload_n 0, 28, 0, 0, 0),
  (28, .invokevirtual 111, 31, 0, 91, 0), (31, .iload 4, 33, 0, 4, 0), (33, .if_icmp .gt 12, 36, 0, 45, 0), (36, .aload_n 0, 37, 0, 0, 0), (37, .invokevirtual 120, 40, 0, 96, 0), (40, .istore 4, 42, 0, 4, 0), (42, .goto 36, 45, 0, 78, 0), (45, .iload_n 2, 46, 0, 2, 0),
  (46, .aload_n 0, 47, 0, 0, 0), (47, .invokevirtual 111, 50, 0, 91, 0), (50, .invokestatic 149, 53, 2, 0, 0), (53, .iload 4, 55, 0, 4, 0), (55, .isub, 56, 0, 0, 0), (56, .istore 6, 58, 0, 6, 0), (58, .aload_n 0, 59, 0, 0, 0), (59, .iload 4, 61, 0, 4, 0),
  (61, .iload 6, 63, 0, 6, 0), (63, .invokevirtual 152, 66, 0, 106, 2), (66, .iload_n 3, 67, 0, 3, 0), (67, .iload 6, 69, 0, 6, 0), (69, .iadd, 70, 0, 0, 0), (70, .istore_n 3, 71, 0, 3, 0), (71, .iload 4, 73, 0, 4, 0), (73, .iload 6, 75, 0, 6, 0),
  (75, .iadd, 76, 0, 0, 0), (76, .istore 4, 78, 0, 4, 0), (78, .iinc 5 1, 81, 1, 5, 0), (81, .goto (-73), 84, 0, 8, 0), (84, .iload_n 3, 85, 0, 3, 0), (85, .ireturn, 86, 0, 0, 0)])
def m_Tree_takeOutOfRun : gM := (⟨"ExtentTree$Tree", "takeOutOfRun", "(II)V"⟩, prog_4_method_23_code, 8, (none : Option FieldType), 5, 122, [], [
  (0, .aload_n 0, 1, 0, 0, 0), (1, .invokevirtual 114, 4, 0, 93, 0), (4, .istore_n 3, 5, 0, 3, 0), (5, .iload_n 1, 6, 0, 1, 0), (6, .aload_n 0, 7, 0, 0, 0), (7, .invokevirtual 77, 10, 0, 89, 0), (10, .isub, 11, 0, 0, 0), (11, .istore 4, 13, 0, 4, 0),
  (13, .aload_n 0, 14, 0, 0, 0), (14, .invokevirtual 111, 17, 0, 91, 0), (17, .iload_n 1, 18, 0, 1, 0), (18, .isub, 19, 0, 0, 0), (19, .iload_n 2, 20, 0, 2, 0), (20, .isub, 21, 0, 0, 0), (21, .istore 5, 23, 0, 5, 0), (23, .aload_n 0, 24, 0, 0, 0),
  (24, .invokevirtual 117, 27, 0, 92, 0), (27, .istore 6, 29, 0, 6, 0), (29, .iload 6, 31, 0, 6, 0), (31, .iload 4, 33, 0, 4, 0), (33, .iadd, 34, 0, 0, 0), (34, .iload_n 2, 35, 0, 2, 0), (35, .iadd, 36, 0, 0, 0), (36, .istore 7, 38, 0, 7, 0),
  (38, .aload_n 0, 39, 0, 0, 0), (39, .iload_n 2, 40, 0, 2, 0), (40, .ineg, 41, 0, 0, 0), (41, .iload_n 3, 42, 0, 3, 0), (42, .invokevirtual 123, 45, 0, 107, 2), (45, .iload 4, 47, 0, 4, 0), (47, .ifCond .ne 15, 50, 0, 62, 0), (50, .iload 5, 52, 0, 5, 0),
  (52, .ifCond .ne 10, 55, 0, 62, 0), (55, .aload_n 0, 56, 0, 0, 0), (56, .invokevirtual 139, 59, 0, 112, 0), (59, .goto 53, 62, 0, 112, 0), (62, .iload 4, 64, 0, 4, 0), (64, .ifCond .ne 18, 67, 0, 82, 0), (67, .aload_n 0, 68, 0, 0, 0), (68, .iload_n 1, 69, 0, 1, 0),
  (69, .iload_n 2, 70, 0, 2, 0), (70, .iadd, 71, 0, 0, 0), (71, .iload 5, 73, 0, 5, 0), (73, .iload 7, 75, 0, 7, 0), (75, .iload_n 3, 76, 0, 3, 0), (76, .invokevirtual 135, 79, 0, 94, 4), (79, .goto 33, 82, 0, 112, 0), (82, .aload_n 0, 83, 0, 0, 0),
  (83, .aload_n 0, 84, 0, 0, 0), (84, .invokevirtual 77, 87, 0, 89, 0), (87, .iload 4, 89, 0, 4, 0), (89, .iload 6, 91, 0, 6, 0), (91, .iload_n 3, 92, 0, 3, 0), (92, .invokevirtual 135, 95, 0, 94, 4), (95, .iload 5, 97, 0, 5, 0), (97, .ifCond .le 15, 100, 0, 112, 0),
  (100, .aload_n 0, 101, 0, 0, 0), (101, .iload_n 1, 102, 0, 1, 0), (102, .iload_n 2, 103, 0, 2, 0), (103, .iadd, 104, 0, 0, 0), (104, .iload 5, 106, 0, 5, 0), (106, .iload 7, 108, 0, 7, 0), (108, .iload_n 3, 109, 0, 3, 0), (109, .invokevirtual 142, 112, 0, 108, 4),
  (112, .return_, 113, 0, 0, 0)])
def m_Tree_countMapped : gM := (⟨"ExtentTree$Tree", "countMapped", "(IZ)V"⟩, prog_4_method_24_code, 3, (none : Option FieldType), 0, 0, [], [
  (0, .aload_n 0, 1, 0, 0, 0), (1, .dup, 2, 0, 0, 0), (2, .getfield 155, 5, 0, 2, 3), (5, .iload_n 1, 6, 0, 1, 0), (6, .iadd, 7, 0, 0, 0), (7, .putfield 155, 10, 0, 2, 3), (10, .iload_n 2, 11, 0, 2, 0), (11, .ifCond .eq 13, 14, 0, 24, 0),
  (14, .aload_n 0, 15, 0, 0, 0), (15, .dup, 16, 0, 0, 0), (16, .getfield 158, 19, 0, 2, 4), (19, .iload_n 1, 20, 0, 1, 0), (20, .iadd, 21, 0, 0, 0), (21, .putfield 158, 24, 0, 2, 4), (24, .return_, 25, 0, 0, 0)])
def m_Tree_insertRun : gM := (⟨"ExtentTree$Tree", "insertRun", "(IIIZ)V"⟩, prog_4_method_25_code, 7, (none : Option FieldType), 4, 96, [], [
  (0, .aload_n 0, 1, 0, 0, 0), (1, .invokevirtual 161, 4, 0, 109, 0), (4, .istore 5, 6, 0, 5, 0), (6, .iload 5, 8, 0, 5, 0), (8, .ifCond .ge 15, 11, 0, 23, 0), (11, .aload_n 0, 12, 0, 0, 0), (12, .getfield 55, 15, 0, 2, 9), (15, .iconst 1, 16, 1, 0, 0),
  (16, .iadd, 17, 0, 0, 0), (17, .bipush 6, 19, 6, 0, 0), (19, .if_icmp .lt 4, 22, 0, 23, 0), (22, .return_, 23, 0, 0, 0), (23, .aload_n 0, 24, 0, 0, 0), (24, .getfield 55, 27, 0, 2, 9), (27, .istore 6, 29, 0, 6, 0), (29, .iload 6, 31, 0, 6, 0),
  (31, .iload 5, 33, 0, 5, 0), (33, .if_icmp .le 23, 36, 0, 56, 0), (36, .aload_n 0, 37, 0, 0, 0), (37, .getfield 32, 40, 0, 2, 10), (40, .iload 6, 42, 0, 6, 0), (42, .aload_n 0, 43, 0, 0, 0), (43, .getfield 9, 46, 0, 2, 6), (46, .invokevirtual 164, 49, 0, 82, 0),
  (49, .aastore, 50, 0, 0, 0), (50, .iinc 6 (-1), 53, (-1), 6, 0), (53, .goto (-24), 56, 0, 29, 0), (56, .iload 5, 58, 0, 5, 0), (58, .ifCond .ge 10, 61, 0, 68, 0), (61, .aload_n 0, 62, 0, 0, 0), (62, .invokevirtual 168, 65, 0, 110, 0), (65, .iconst 1, 66, 1, 0, 0),
  (66, .istore 5, 68, 0, 5, 0), (68, .iload 5, 70, 0, 5, 0), (70, .iconst 1, 71, 1, 0, 0), (71, .iadd, 72, 0, 0, 0), (72, .istore 6, 74, 0, 6, 0), (74, .iload 6, 76, 0, 6, 0), (76, .aload_n 0, 77, 0, 0, 0), (77, .getfield 55, 80, 0, 2, 9),
  (80, .if_icmp .gt 15, 83, 0, 95, 0), (83, .aload_n 0, 84, 0, 0, 0), (84, .iload 6, 86, 0, 6, 0), (86, .invokevirtual 171, 89, 0, 111, 1), (89, .iinc 6 1, 92, 1, 6, 0), (92, .goto (-18), 95, 0, 74, 0), (95, .aload_n 0, 96, 0, 0, 0), (96, .getfield 24, 99, 0, 2, 7),
  (99, .aload_n 0, 100, 0, 0, 0), (100, .getfield 55, 103, 0, 2, 9), (103, .aaload, 104, 0, 0, 0), (104, .aload_n 0, 105, 0, 0, 0), (105, .getfield 28, 108, 0, 2, 8), (108, .aload_n 0, 109, 0, 0, 0), (109, .getfield 55, 112, 0, 2, 9), (112, .iaload, 113, 0, 0, 0),
  (113, .iconst 1, 114, 1, 0, 0), (114, .iadd, 115, 0, 0, 0), (115, .iload_n 1, 116, 0, 1, 0), (116, .iload_n 2, 117, 0, 2, 0), (117, .iload 4, 119, 0, 4, 0), (119, .invokestatic 91, 122, 0, 95, 2), (122, .iload_n 3, 123, 0, 3, 0), (123, .invokevirtual 174, 126, 0, 74, 4),
  (126, .aload_n 0, 127, 0, 0, 0), (127, .aload_n 0, 128, 0, 0, 0), (128, .getfield 55, 131, 0, 2, 9), (131, .invokevirtual 99, 134, 0, 113, 1), (134, .aload_n 0, 135, 0, 0, 0), (135, .dup, 136, 0, 0, 0), (136, .getfield 177, 139, 0, 2, 1), (139, .iconst 1, 140, 1, 0, 0),
  (140, .iadd, 141, 0, 0, 0), (141, .putfield 177, 144, 0, 2, 1), (144, .return_, 145, 0, 0, 0)])
def m_Tree_levelWithRoom : gM := (⟨"ExtentTree$Tree", "levelWithRoom", "()I"⟩, prog_4_method_26_code, 2, (Option.some FieldType.int), 1, 20, [], [
  (0, .aload_n 0, 1, 0, 0, 0), (1, .getfield 55, 4, 0, 2, 9), (4, .istore_n 1, 5, 0, 1, 0), (5, .iload_n 1, 6, 0, 1, 0), (6, .ifCond .lt 21, 9, 0, 27, 0), (9, .aload_n 0, 10, 0, 0, 0), (10, .getfield 24, 13, 0, 2, 7), (13, .iload_n 1, 14, 0, 1, 0),
  (14, .aaload, 15, 0, 0, 0), (15, .invokevirtual 47, 18, 0, 63, 0), (18, .ifCond .eq 9, 21, 0, 27, 0), (21, .iinc 1 (-1), 24, (-1), 1, 0), (24, .goto (-19), 27, 0, 5, 0), (27, .iload_n 1, 28, 0, 1, 0), (28, .ireturn, 29, 0, 0, 0)])
def m_Tree_growRoot : gM := (⟨"ExtentTree$Tree", "growRoot", "()V"⟩, prog_4_method_27_code, 3, (none : Option FieldType), 3, 72, [], [
  (0, .aload_n 0, 1, 0, 0, 0), (1, .getfield 32, 4, 0, 2, 10), (4, .iconst 0, 5, 0, 0, 0), (5, .aaload, 6, 0, 0, 0), (6, .astore_n 1, 7, 0, 1, 0), (7, .aload_n 0, 8, 0, 0, 0), (8, .getfield 20, 11, 0, 2, 0), (11, .iconst 0, 12, 0, 0, 0),
  (12, .aload_n 1, 13, 0, 1, 0), (13, .invokevirtual 180, 16, 0, 76, 2), (16, .aload_n 0, 17, 0, 0, 0), (17, .aload_n 1, 18, 0, 1, 0), (18, .iconst 1, 19, 1, 0, 0), (19, .invokevirtual 184, 22, 0, 116, 2), (22, .aload_n 0, 23, 0, 0, 0), (23, .getfield 20, 26, 0, 2, 0),
  (26, .aload_n 1, 27, 0, 1, 0), (27, .getfield 35, 30, 0, 0, 3), (30, .iconst 1, 31, 1, 0, 0), (31, .iadd, 32, 0, 0, 0), (32, .putfield 35, 35, 0, 0, 3), (35, .aload_n 0, 36, 0, 0, 0), (36, .getfield 20, 39, 0, 2, 0), (39, .iconst 0, 40, 0, 0, 0),
  (40, .aload_n 1, 41, 0, 1, 0), (41, .iconst 0, 42, 0, 0, 0), (42, .invokevirtual 71, 45, 0, 66, 1), (45, .aload_n 1, 46, 0, 1, 0), (46, .getfield 188, 49, 0, 0, 0), (49, .iconst 0, 50, 0, 0, 0), (50, .invokevirtual 174, 53, 0, 74, 4), (53, .aload_n 0, 54, 0, 0, 0),
  (54, .getfield 55, 57, 0, 2, 9), (57, .istore_n 2, 58, 0, 2, 0), (58, .iload_n 2, 59, 0, 2, 0), (59, .ifCond .le 51, 62, 0, 110, 0), (62, .aload_n 0, 63, 0, 0, 0), (63, .getfield 24, 66, 0, 2, 7), (66, .iload_n 2, 67, 0, 2, 0), (67, .iconst 1, 68, 1, 0, 0),
  (68, .iadd, 69, 0, 0, 0), (69, .aload_n 0, 70, 0, 0, 0), (70, .getfield 24, 73, 0, 2, 7), (73, .iload_n 2, 74, 0, 2, 0), (74, .aaload, 75, 0, 0, 0), (75, .aastore, 76, 0, 0, 0), (76, .aload_n 0, 77, 0, 0, 0), (77, .getfield 28, 80, 0, 2, 8),
  (80, .iload_n 2, 81, 0, 2, 0), (81, .iconst 1, 82, 1, 0, 0), (82, .iadd, 83, 0, 0, 0), (83, .aload_n 0, 84, 0, 0, 0), (84, .getfield 28, 87, 0, 2, 8), (87, .iload_n 2, 88, 0, 2, 0), (88, .iaload, 89, 0, 0, 0), (89, .iastore, 90, 0, 0, 0),
  (90, .aload_n 0, 91, 0, 0, 0), (91, .getfield 32, 94, 0, 2, 10), (94, .iload_n 2, 95, 0, 2, 0), (95, .iconst 1, 96, 1, 0, 0), (96, .iadd, 97, 0, 0, 0), (97, .aload_n 0, 98, 0, 0, 0), (98, .getfield 32, 101, 0, 2, 10), (101, .iload_n 2, 102, 0, 2, 0),
  (102, .aaload, 103, 0, 0, 0), (103, .aastore, 104, 0, 0, 0), (104, .iinc 2 (-1), 107, (-1), 2, 0), (107, .goto (-49), 110, 0, 58, 0), (110, .aload_n 0, 111, 0, 0, 0), (111, .getfield 24, 114, 0, 2, 7), (114, .iconst 1, 115, 1, 0, 0), (115, .aload_n 1, 116, 0, 1, 0),
  (116, .aastore, 117, 0, 0, 0), (117, .aload_n 0, 118, 0, 0, 0), (118, .getfield 28, 121, 0, 2, 8), (121, .iconst 1, 122, 1, 0, 0), (122, .aload_n 0, 123, 0, 0, 0), (123, .getfield 28, 126, 0, 2, 8), (126, .iconst 0, 127, 0, 0, 0), (127, .iaload, 128, 0, 0, 0),
  (128, .iastore, 129, 0, 0, 0), (129, .aload_n 0, 130, 0, 0, 0), (130, .getfield 28, 133, 0, 2, 8), (133, .iconst 0, 134, 0, 0, 0), (134, .iconst 0, 135, 0, 0, 0), (135, .iastore, 136, 0, 0, 0), (136, .aload_n 0, 137, 0, 0, 0), (137, .dup, 138, 0, 0, 0),
  (138, .getfield 55, 141, 0, 2, 9), (141, .iconst 1, 142, 1, 0, 0), (142, .iadd, 143, 0, 0, 0), (143, .putfield 55, 146, 0, 2, 9), (146, .return_, 147, 0, 0, 0)])
def m_Tree_splitBlock : gM := (⟨"ExtentTree$Tree", "splitBlock", "(I)V"⟩, prog_4_method_28_code, 5, (none : Option FieldType), 3, 72, [], [
  (0, .aload_n 0, 1, 0, 0, 0), (1, .getfield 24, 4, 0, 2, 7), (4, .iload_n 1, 5, 0, 1, 0), (5, .aaload, 6, 0, 0, 0), (6, .astore_n 2, 7, 0, 2, 0), (7, .aload_n 0, 8, 0, 0, 0), (8, .getfield 32, 11, 0, 2, 10), (11, .iload_n 1, 12, 0, 1, 0),
  (12, .aaload, 13, 0, 0, 0), (13, .astore_n 3, 14, 0, 3, 0), (14, .aload_n 2, 15, 0, 2, 0), (15, .getfield 191, 18, 0, 0, 1), (18, .iconst 1, 19, 1, 0, 0), (19, .iadd, 20, 0, 0, 0), (20, .iconst 2, 21, 2, 0, 0), (21, .idiv, 22, 0, 0, 0),
  (22, .istore 4, 24, 0, 4, 0), (24, .aload_n 2, 25, 0, 2, 0), (25, .iload 4, 27, 0, 4, 0), (27, .aload_n 3, 28, 0, 3, 0), (28, .invokevirtual 180, 31, 0, 76, 2), (31, .aload_n 0, 32, 0, 0, 0), (32, .aload_n 3, 33, 0, 3, 0), (33, .iconst 1, 34, 1, 0, 0),
  (34, .invokevirtual 184, 37, 0, 116, 2), (37, .aload_n 0, 38, 0, 0, 0), (38, .getfield 24, 41, 0, 2, 7), (41, .iload_n 1, 42, 0, 1, 0), (42, .iconst 1, 43, 1, 0, 0), (43, .isub, 44, 0, 0, 0), (44, .aaload, 45, 0, 0, 0), (45, .aload_n 0, 46, 0, 0, 0),
  (46, .getfield 28, 49, 0, 2, 8), (49, .iload_n 1, 50, 0, 1, 0), (50, .iconst 1, 51, 1, 0, 0), (51, .isub, 52, 0, 0, 0), (52, .iaload, 53, 0, 0, 0), (53, .iconst 1, 54, 1, 0, 0), (54, .iadd, 55, 0, 0, 0), (55, .aload_n 3, 56, 0, 3, 0),
  (56, .iconst 0, 57, 0, 0, 0), (57, .invokevirtual 71, 60, 0, 66, 1), (60, .aload_n 3, 61, 0, 3, 0), (61, .getfield 188, 64, 0, 0, 0), (64, .iconst 0, 65, 0, 0, 0), (65, .invokevirtual 174, 68, 0, 74, 4), (68, .aload_n 0, 69, 0, 0, 0), (69, .getfield 28, 72, 0, 2, 8),
  (72, .iload_n 1, 73, 0, 1, 0), (73, .iaload, 74, 0, 0, 0), (74, .iconst 1, 75, 1, 0, 0), (75, .iadd, 76, 0, 0, 0), (76, .iload 4, 78, 0, 4, 0), (78, .if_icmp .le 33, 81, 0, 111, 0), (81, .aload_n 0, 82, 0, 0, 0), (82, .getfield 24, 85, 0, 2, 7),
  (85, .iload_n 1, 86, 0, 1, 0), (86, .aload_n 3, 87, 0, 3, 0), (87, .aastore, 88, 0, 0, 0), (88, .aload_n 0, 89, 0, 0, 0), (89, .getfield 28, 92, 0, 2, 8), (92, .iload_n 1, 93, 0, 1, 0), (93, .dup2, 94, 0, 0, 0), (94, .iaload, 95, 0, 0, 0),
  (95, .iload 4, 97, 0, 4, 0), (97, .isub, 98, 0, 0, 0), (98, .iastore, 99, 0, 0, 0), (99, .aload_n 0, 100, 0, 0, 0), (100, .getfield 28, 103, 0, 2, 8), (103, .iload_n 1, 104, 0, 1, 0), (104, .iconst 1, 105, 1, 0, 0), (105, .isub, 106, 0, 0, 0),
  (106, .dup2, 107, 0, 0, 0), (107, .iaload, 108, 0, 0, 0), (108, .iconst 1, 109, 1, 0, 0), (109, .iadd, 110, 0, 0, 0), (110, .iastore, 111, 0, 0, 0), (111, .return_, 112, 0, 0, 0)])
def m_Tree_removeRun : gM := (⟨"ExtentTree$Tree", "removeRun", "()V"⟩, prog_4_method_29_code, 2, (none : Option FieldType), 4, 86, [], [
  (0, .aload_n 0, 1, 0, 0, 0), (1, .getfield 55, 4, 0, 2, 9), (4, .istore_n 1, 5, 0, 1, 0), (5, .aload_n 0, 6, 0, 0, 0), (6, .getfield 24, 9, 0, 2, 7), (9, .iload_n 1, 10, 0, 1, 0), (10, .aaload, 11, 0, 0, 0), (11, .aload_n 0, 12, 0, 0, 0),
  (12, .getfield 28, 15, 0, 2, 8), (15, .iload_n 1, 16, 0, 1, 0), (16, .iaload, 17, 0, 0, 0), (17, .invokevirtual 194, 20, 0, 75, 1), (20, .iload_n 1, 21, 0, 1, 0), (21, .ifCond .le 46, 24, 0, 67, 0), (24, .aload_n 0, 25, 0, 0, 0), (25, .getfield 24, 28, 0, 2, 7),
  (28, .iload_n 1, 29, 0, 1, 0), (29, .aaload, 30, 0, 0, 0), (30, .getfield 197, 33, 0, 0, 4), (33, .ifCond .ne 34, 36, 0, 67, 0), (36, .aload_n 0, 37, 0, 0, 0), (37, .aload_n 0, 38, 0, 0, 0), (38, .getfield 24, 41, 0, 2, 7), (41, .iload_n 1, 42, 0, 1, 0),
  (42, .aaload, 43, 0, 0, 0), (43, .invokevirtual 200, 46, 0, 115, 1), (46, .iinc 1 (-1), 49, (-1), 1, 0), (49, .aload_n 0, 50, 0, 0, 0), (50, .getfield 24, 53, 0, 2, 7), (53, .iload_n 1, 54, 0, 1, 0), (54, .aaload, 55, 0, 0, 0), (55, .aload_n 0, 56, 0, 0, 0),
  (56, .getfield 28, 59, 0, 2, 8), (59, .iload_n 1, 60, 0, 1, 0), (60, .iaload, 61, 0, 0, 0), (61, .invokevirtual 194, 64, 0, 75, 1), (64, .goto (-44), 67, 0, 20, 0), (67, .aload_n 0, 68, 0, 0, 0), (68, .getfield 20, 71, 0, 2, 0), (71, .getfield 197, 74, 0, 0, 4),
  (74, .ifCond .ne 11, 77, 0, 85, 0), (77, .aload_n 0, 78, 0, 0, 0), (78, .getfield 20, 81, 0, 2, 0), (81, .iconst 0, 82, 0, 0, 0), (82, .putfield 35, 85, 0, 0, 3), (85, .aload_n 0, 86, 0, 0, 0), (86, .iload_n 1, 87, 0, 1, 0), (87, .invokevirtual 99, 90, 0, 113, 1),
  (90, .aload_n 0, 91, 0, 0, 0), (91, .dup, 92, 0, 0, 0), (92, .getfield 177, 95, 0, 2, 1), (95, .iconst 1, 96, 1, 0, 0), (96, .isub, 97, 0, 0, 0), (97, .putfield 177, 100, 0, 2, 1), (100, .return_, 101, 0, 0, 0)])
def m_Tree_refreshFirsts : gM := (⟨"ExtentTree$Tree", "refreshFirsts", "(I)V"⟩, prog_4_method_30_code, 3, (none : Option FieldType), 3, 64, [], [
  (0, .iload_n 1, 1, 0, 1, 0), (1, .istore_n 2, 2, 0, 2, 0), (2, .iload_n 2, 3, 0, 2, 0), (3, .ifCond .le 38, 6, 0, 41, 0), (6, .aload_n 0, 7, 0, 0, 0), (7, .getfield 24, 10, 0, 2, 7), (10, .iload_n 2, 11, 0, 2, 0), (11, .iconst 1, 12, 1, 0, 0),
  (12, .isub, 13, 0, 0, 0), (13, .aaload, 14, 0, 0, 0), (14, .aload_n 0, 15, 0, 0, 0), (15, .getfield 28, 18, 0, 2, 8), (18, .iload_n 2, 19, 0, 2, 0), (19, .iconst 1, 20, 1, 0, 0), (20, .isub, 21, 0, 0, 0), (21, .iaload, 22, 0, 0, 0),
  (22, .aload_n 0, 23, 0, 0, 0), (23, .getfield 24, 26, 0, 2, 7), (26, .iload_n 2, 27, 0, 2, 0), (27, .aaload, 28, 0, 0, 0), (28, .iconst 0, 29, 0, 0, 0), (29, .invokevirtual 71, 32, 0, 66, 1), (32, .invokevirtual 204, 35, 0, 71, 2), (35, .iinc 2 (-1), 38, (-1), 2, 0),
  (38, .goto (-36), 41, 0, 2, 0), (41, .return_, 42, 0, 0, 0)])
def m_Tree_settle : gM := (⟨"ExtentTree$Tree", "settle", "()V"⟩, prog_4_method_31_code, 3, (none : Option FieldType), 3, 64, [], [
  (0, .aload_n 0, 1, 0, 0, 0), (1, .getfield 20, 4, 0, 2, 0), (4, .getfield 35, 7, 0, 0, 3), (7, .istore_n 1, 8, 0, 1, 0), (8, .iload_n 1, 9, 0, 1, 0), (9, .ifCond .le 65, 12, 0, 74, 0), (12, .aload_n 0, 13, 0, 0, 0), (13, .getfield 20, 16, 0, 2, 0),
  (16, .getfield 197, 19, 0, 0, 4), (19, .iconst 1, 20, 1, 0, 0), (20, .if_icmp .ne 54, 23, 0, 74, 0), (23, .aload_n 0, 24, 0, 0, 0), (24, .getfield 9, 27, 0, 2, 6), (27, .aload_n 0, 28, 0, 0, 0), (28, .getfield 20, 31, 0, 2, 0), (31, .iconst 0, 32, 0, 0, 0),
  (32, .invokevirtual 64, 35, 0, 67, 1), (35, .invokevirtual 67, 38, 0, 80, 1), (38, .astore_n 2, 39, 0, 2, 0), (39, .aload_n 2, 40, 0, 2, 0), (40, .getfield 197, 43, 0, 0, 4), (43, .aload_n 0, 44, 0, 0, 0), (44, .getfield 20, 47, 0, 2, 0), (47, .getfield 191, 50, 0, 0, 1),
  (50, .if_icmp .le 4, 53, 0, 54, 0), (53, .return_, 54, 0, 0, 0), (54, .aload_n 2, 55, 0, 2, 0), (55, .iconst 0, 56, 0, 0, 0), (56, .aload_n 0, 57, 0, 0, 0), (57, .getfield 20, 60, 0, 2, 0), (60, .invokevirtual 180, 63, 0, 76, 2), (63, .aload_n 0, 64, 0, 0, 0),
  (64, .aload_n 2, 65, 0, 2, 0), (65, .invokevirtual 200, 68, 0, 115, 1), (68, .iinc 1 (-1), 71, (-1), 1, 0), (71, .goto (-63), 74, 0, 8, 0), (74, .return_, 75, 0, 0, 0)])
def m_Tree_giveBack : gM := (⟨"ExtentTree$Tree", "giveBack", "(LExtentTree$Node;)V"⟩, prog_4_method_32_code, 2, (none : Option FieldType), 1, 22, [], [
  (0, .aload_n 0, 1, 0, 0, 0), (1, .aload_n 1, 2, 0, 1, 0), (2, .iconst (-1), 3, (-1), 0, 0), (3, .invokevirtual 184, 6, 0, 116, 2), (6, .aload_n 0, 7, 0, 0, 0), (7, .getfield 9, 10, 0, 2, 6), (10, .aload_n 1, 11, 0, 1, 0), (11, .invokevirtual 207, 14, 0, 83, 1),
  (14, .return_, 15, 0, 0, 0)])
def m_Tree_countBlock : gM := (⟨"ExtentTree$Tree", "countBlock", "(LExtentTree$Node;I)V"⟩, prog_4_method_33_code, 3, (none : Option FieldType), 0, 0, [], [
  (0, .aload_n 0, 1, 0, 0, 0), (1, .dup, 2, 0, 0, 0), (2, .getfield 208, 5, 0, 2, 2), (5, .iload_n 2, 6, 0, 2, 0), (6, .iadd, 7, 0, 0, 0), (7, .putfield 208, 10, 0, 2, 2), (10, .aload_n 1, 11, 0, 1, 0), (11, .getfield 35, 14, 0, 0, 3),
  (14, .ifCond .ne 13, 17, 0, 27, 0), (17, .aload_n 0, 18, 0, 0, 0), (18, .dup, 19, 0, 0, 0), (19, .getfield 39, 22, 0, 2, 5), (22, .iload_n 2, 23, 0, 2, 0), (23, .iadd, 24, 0, 0, 0), (24, .putfield 39, 27, 0, 2, 5), (27, .return_, 28, 0, 0, 0)])
def m_Law_cell : gM := (⟨"ExtentTreeLaw", "cell", "([II)I"⟩, method_2_code, 2, (Option.some FieldType.int), 0, 0, [], [
  (0, .iload_n 1, 1, 0, 1, 0), (1, .aload_n 0, 2, 0, 0, 0), (2, .arraylength, 3, 0, 0, 0), (3, .if_icmp .ge 9, 6, 0, 12, 0), (6, .aload_n 0, 7, 0, 0, 0), (7, .iload_n 1, 8, 0, 1, 0), (8, .iaload, 9, 0, 0, 0), (9, .goto 4, 12, 0, 13, 0),
  (12, .iconst 0, 13, 0, 0, 0), (13, .ireturn, 14, 0, 0, 0)])
def m_Law_put : gM := (⟨"ExtentTreeLaw", "put", "(LExtentTree;IIIIZ[J)I"⟩, method_3_code, 8, (Option.some FieldType.int), 8, 191, [(0, 16, 19, 13), (0, 16, 23, 15), (0, 16, 27, 17)], [
  (0, .aload 6, 2, 0, 6, 0), (2, .iconst 0, 3, 0, 0, 0), (3, .aload_n 0, 4, 0, 0, 0), (4, .iload_n 1, 5, 0, 1, 0), (5, .iload_n 2, 6, 0, 2, 0), (6, .iload_n 3, 7, 0, 3, 0), (7, .iload 4, 9, 0, 4, 0), (9, .iload 5, 11, 0, 5, 0),
  (11, .invokevirtual 7, 14, 0, 1, 5), (14, .i2l, 15, 0, 0, 0), (15, .lastore, 16, 0, 0, 0), (16, .goto 15, 19, 0, 31, 0), (19, .astore 7, 21, 0, 7, 0), (21, .iconst 1, 22, 1, 0, 0), (22, .ireturn, 23, 0, 0, 0), (23, .astore 7, 25, 0, 7, 0),
  (25, .iconst 2, 26, 2, 0, 0), (26, .ireturn, 27, 0, 0, 0), (27, .astore 7, 29, 0, 7, 0), (29, .iconst 3, 30, 3, 0, 0), (30, .ireturn, 31, 0, 0, 0), (31, .iconst 0, 32, 0, 0, 0), (32, .ireturn, 33, 0, 0, 0)])
def m_Law_spread : gM := (⟨"ExtentTreeLaw", "spread", "(LExtentTree;IIIII[J)I"⟩, method_4_code, 8, (Option.some FieldType.int), 8, 193, [(0, 16, 19, 13)], [
  (0, .aload 6, 2, 0, 6, 0), (2, .iconst 0, 3, 0, 0, 0), (3, .aload_n 0, 4, 0, 0, 0), (4, .iload_n 1, 5, 0, 1, 0), (5, .iload_n 2, 6, 0, 2, 0), (6, .iload_n 3, 7, 0, 3, 0), (7, .iload 4, 9, 0, 4, 0), (9, .iload 5, 11, 0, 5, 0),
  (11, .invokevirtual 19, 14, 0, 2, 5), (14, .i2l, 15, 0, 0, 0), (15, .lastore, 16, 0, 0, 0), (16, .goto 7, 19, 0, 23, 0), (19, .astore 7, 21, 0, 7, 0), (21, .iconst 1, 22, 1, 0, 0), (22, .ireturn, 23, 0, 0, 0), (23, .iconst 0, 24, 0, 0, 0),
  (24, .ireturn, 25, 0, 0, 0)])
def m_Law_punch : gM := (⟨"ExtentTreeLaw", "punch", "(LExtentTree;III[J)I"⟩, method_5_code, 6, (Option.some FieldType.int), 8, 200, [(0, 12, 15, 13), (0, 12, 19, 17)], [
  (0, .aload 4, 2, 0, 4, 0), (2, .iconst 0, 3, 0, 0, 0), (3, .aload_n 0, 4, 0, 0, 0), (4, .iload_n 1, 5, 0, 1, 0), (5, .iload_n 2, 6, 0, 2, 0), (6, .iload_n 3, 7, 0, 3, 0), (7, .invokevirtual 23, 10, 0, 3, 3), (10, .i2l, 11, 0, 0, 0),
  (11, .lastore, 12, 0, 0, 0), (12, .goto 11, 15, 0, 23, 0), (15, .astore 5, 17, 0, 5, 0), (17, .iconst 1, 18, 1, 0, 0), (18, .ireturn, 19, 0, 0, 0), (19, .astore 5, 21, 0, 5, 0), (21, .iconst 2, 22, 2, 0, 0), (22, .ireturn, 23, 0, 0, 0),
  (23, .iconst 0, 24, 0, 0, 0), (24, .ireturn, 25, 0, 0, 0)])
def m_Law_strip : gM := (⟨"ExtentTreeLaw", "strip", "(LExtentTree;IIII[J)I"⟩, method_6_code, 7, (Option.some FieldType.int), 8, 203, [(0, 14, 17, 13)], [
  (0, .aload 5, 2, 0, 5, 0), (2, .iconst 0, 3, 0, 0, 0), (3, .aload_n 0, 4, 0, 0, 0), (4, .iload_n 1, 5, 0, 1, 0), (5, .iload_n 2, 6, 0, 2, 0), (6, .iload_n 3, 7, 0, 3, 0), (7, .iload 4, 9, 0, 4, 0), (9, .invokevirtual 27, 12, 0, 4, 4),
  (12, .i2l, 13, 0, 0, 0), (13, .lastore, 14, 0, 0, 0), (14, .goto 7, 17, 0, 21, 0), (17, .astore 6, 19, 0, 6, 0), (19, .iconst 1, 20, 1, 0, 0), (20, .ireturn, 21, 0, 0, 0), (21, .iconst 0, 22, 0, 0, 0), (22, .ireturn, 23, 0, 0, 0)])
def m_Law_write : gM := (⟨"ExtentTreeLaw", "write", "(LExtentTree;III[J)I"⟩, method_7_code, 6, (Option.some FieldType.int), 8, 200, [(0, 12, 15, 13), (0, 12, 19, 15), (0, 12, 23, 17)], [
  (0, .aload 4, 2, 0, 4, 0), (2, .iconst 0, 3, 0, 0, 0), (3, .aload_n 0, 4, 0, 0, 0), (4, .iload_n 1, 5, 0, 1, 0), (5, .iload_n 2, 6, 0, 2, 0), (6, .iload_n 3, 7, 0, 3, 0), (7, .invokevirtual 31, 10, 0, 5, 3), (10, .i2l, 11, 0, 0, 0),
  (11, .lastore, 12, 0, 0, 0), (12, .goto 15, 15, 0, 27, 0), (15, .astore 5, 17, 0, 5, 0), (17, .iconst 1, 18, 1, 0, 0), (18, .ireturn, 19, 0, 0, 0), (19, .astore 5, 21, 0, 5, 0), (21, .iconst 2, 22, 2, 0, 0), (22, .ireturn, 23, 0, 0, 0),
  (23, .astore 5, 25, 0, 5, 0), (25, .iconst 3, 26, 3, 0, 0), (26, .ireturn, 27, 0, 0, 0), (27, .iconst 0, 28, 0, 0, 0), (28, .ireturn, 29, 0, 0, 0)])
def m_Law_look : gM := (⟨"ExtentTreeLaw", "look", "(LExtentTree;II[J)I"⟩, method_8_code, 5, (Option.some FieldType.int), 7, 155, [(0, 10, 13, 13)], [
  (0, .aload_n 3, 1, 0, 3, 0), (1, .iconst 0, 2, 0, 0, 0), (2, .aload_n 0, 3, 0, 0, 0), (3, .iload_n 1, 4, 0, 1, 0), (4, .iload_n 2, 5, 0, 2, 0), (5, .invokevirtual 34, 8, 0, 6, 2), (8, .i2l, 9, 0, 0, 0), (9, .lastore, 10, 0, 0, 0),
  (10, .goto 7, 13, 0, 17, 0), (13, .astore 4, 15, 0, 4, 0), (15, .iconst 1, 16, 1, 0, 0), (16, .ireturn, 17, 0, 0, 0), (17, .iconst 0, 18, 0, 0, 0), (18, .ireturn, 19, 0, 0, 0)])
def m_Law_written : gM := (⟨"ExtentTreeLaw", "written", "(LExtentTree;II[J)I"⟩, method_9_code, 5, (Option.some FieldType.int), 7, 155, [(0, 17, 20, 13)], [
  (0, .aload_n 3, 1, 0, 3, 0), (1, .iconst 0, 2, 0, 0, 0), (2, .aload_n 0, 3, 0, 0, 0), (3, .iload_n 1, 4, 0, 1, 0), (4, .iload_n 2, 5, 0, 2, 0), (5, .invokevirtual 38, 8, 0, 7, 2), (8, .ifCond .eq 7, 11, 0, 15, 0), (11, .lconst 1, 12, 1, 0, 0),
  (12, .goto 4, 15, 0, 16, 0), (15, .lconst 0, 16, 0, 0, 0), (16, .lastore, 17, 0, 0, 0), (17, .goto 7, 20, 0, 24, 0), (20, .astore 4, 22, 0, 4, 0), (22, .iconst 1, 23, 1, 0, 0), (23, .ireturn, 24, 0, 0, 0), (24, .iconst 0, 25, 0, 0, 0),
  (25, .ireturn, 26, 0, 0, 0)])
def m_Law_reach : gM := (⟨"ExtentTreeLaw", "reach", "(LExtentTree;II[J)I"⟩, method_10_code, 5, (Option.some FieldType.int), 7, 155, [(0, 10, 13, 13)], [
  (0, .aload_n 3, 1, 0, 3, 0), (1, .iconst 0, 2, 0, 0, 0), (2, .aload_n 0, 3, 0, 0, 0), (3, .iload_n 1, 4, 0, 1, 0), (4, .iload_n 2, 5, 0, 2, 0), (5, .invokevirtual 42, 8, 0, 8, 2), (8, .i2l, 9, 0, 0, 0), (9, .lastore, 10, 0, 0, 0),
  (10, .goto 7, 13, 0, 17, 0), (13, .astore 4, 15, 0, 4, 0), (15, .iconst 1, 16, 1, 0, 0), (16, .ireturn, 17, 0, 0, 0), (17, .iconst 0, 18, 0, 0, 0), (18, .ireturn, 19, 0, 0, 0)])
def m_Law_count : gM := (⟨"ExtentTreeLaw", "count", "(LExtentTree;II[J)I"⟩, method_11_code, 5, (Option.some FieldType.int), 7, 113, [(0, 10, 13, 13)], [
  (0, .aload_n 3, 1, 0, 3, 0), (1, .iconst 0, 2, 0, 0, 0), (2, .aload_n 0, 3, 0, 0, 0), (3, .iload_n 1, 4, 0, 1, 0), (4, .iload_n 2, 5, 0, 2, 0), (5, .invokevirtual 45, 8, 0, 9, 2), (8, .i2l, 9, 0, 0, 0), (9, .lastore, 10, 0, 0, 0),
  (10, .goto 7, 13, 0, 17, 0), (13, .astore 4, 15, 0, 4, 0), (15, .iconst 1, 16, 1, 0, 0), (16, .ireturn, 17, 0, 0, 0), (17, .iconst 0, 18, 0, 0, 0), (18, .ireturn, 19, 0, 0, 0)])
def m_Law_rootByte : gM := (⟨"ExtentTreeLaw", "rootByte", "(LExtentTree;II[J)I"⟩, method_12_code, 5, (Option.some FieldType.int), 7, 112, [(0, 10, 13, 13), (0, 10, 17, 51)], [
  (0, .aload_n 3, 1, 0, 3, 0), (1, .iconst 0, 2, 0, 0, 0), (2, .aload_n 0, 3, 0, 0, 0), (3, .iload_n 1, 4, 0, 1, 0), (4, .iload_n 2, 5, 0, 2, 0), (5, .invokevirtual 48, 8, 0, 11, 2), (8, .i2l, 9, 0, 0, 0), (9, .lastore, 10, 0, 0, 0),
  (10, .goto 11, 13, 0, 21, 0), (13, .astore 4, 15, 0, 4, 0), (15, .iconst 1, 16, 1, 0, 0), (16, .ireturn, 17, 0, 0, 0), (17, .astore 4, 19, 0, 4, 0), (19, .iconst 2, 20, 2, 0, 0), (20, .ireturn, 21, 0, 0, 0), (21, .iconst 0, 22, 0, 0, 0),
  (22, .ireturn, 23, 0, 0, 0)])
def m_Law_nodeByte : gM := (⟨"ExtentTreeLaw", "nodeByte", "(LExtentTree;II[J)I"⟩, method_13_code, 5, (Option.some FieldType.int), 7, 112, [(0, 10, 13, 51)], [
  (0, .aload_n 3, 1, 0, 3, 0), (1, .iconst 0, 2, 0, 0, 0), (2, .aload_n 0, 3, 0, 0, 0), (3, .iload_n 1, 4, 0, 1, 0), (4, .iload_n 2, 5, 0, 2, 0), (5, .invokevirtual 53, 8, 0, 12, 2), (8, .i2l, 9, 0, 0, 0), (9, .lastore, 10, 0, 0, 0),
  (10, .goto 7, 13, 0, 17, 0), (13, .astore 4, 15, 0, 4, 0), (15, .iconst 1, 16, 1, 0, 0), (16, .ireturn, 17, 0, 0, 0), (17, .iconst 0, 18, 0, 0, 0), (18, .ireturn, 19, 0, 0, 0)])
def m_Law_law : gM := (x, code, maxLocals, ret, 9, 229, [], [
  (0, .new 8, 3, 0, 3, 0), (3, .dup, 4, 0, 0, 0), (4, .aload_n 0, 5, 0, 0, 0), (5, .iconst 0, 6, 0, 0, 0), (6, .invokestatic 56, 9, 0, 117, 2), (9, .invokespecial 62, 12, 0, 0, 1), (12, .astore_n 1, 13, 0, 1, 0), (13, .new 65, 16, 0, 4, 0),
  (16, .dup, 17, 0, 0, 0), (17, .aload_n 0, 18, 0, 0, 0), (18, .iconst 0, 19, 0, 0, 0), (19, .invokestatic 56, 22, 0, 117, 2), (22, .invokespecial 67, 25, 0, 18, 1), (25, .astore_n 2, 26, 0, 2, 0), (26, .iconst 1, 27, 1, 0, 0), (27, .newarray .long, 29, 0, 1, 0),
  (29, .astore_n 3, 30, 0, 3, 0), (30, .iconst 1, 31, 1, 0, 0), (31, .istore 4, 33, 0, 4, 0), (33, .iload 4, 35, 0, 4, 0), (35, .aload_n 0, 36, 0, 0, 0), (36, .arraylength, 37, 0, 0, 0), (37, .bipush 6, 39, 6, 0, 0), (39, .isub, 40, 0, 0, 0),
  (40, .if_icmp .gt 982, 43, 0, 1022, 0), (43, .aload_n 0, 44, 0, 0, 0), (44, .iload 4, 46, 0, 4, 0), (46, .iaload, 47, 0, 0, 0), (47, .bipush 15, 49, 15, 0, 0), (49, .iand, 50, 0, 0, 0), (50, .tableswitch 966 0 11 #[62, 182, 286, 366, 458, 538, 606, 681, 749, 817, 830, 898], 112, 0, 0, 0), (112, .aload_n 1, 113, 0, 1, 0),
  (113, .aload_n 0, 114, 0, 0, 0), (114, .iload 4, 116, 0, 4, 0), (116, .iconst 1, 117, 1, 0, 0), (117, .iadd, 118, 0, 0, 0), (118, .iaload, 119, 0, 0, 0), (119, .aload_n 0, 120, 0, 0, 0), (120, .iload 4, 122, 0, 4, 0), (122, .iconst 2, 123, 2, 0, 0),
  (123, .iadd, 124, 0, 0, 0), (124, .iaload, 125, 0, 0, 0), (125, .aload_n 0, 126, 0, 0, 0), (126, .iload 4, 128, 0, 4, 0), (128, .iconst 3, 129, 3, 0, 0), (129, .iadd, 130, 0, 0, 0), (130, .iaload, 131, 0, 0, 0), (131, .aload_n 0, 132, 0, 0, 0),
  (132, .iload 4, 134, 0, 4, 0), (134, .iconst 4, 135, 4, 0, 0), (135, .iadd, 136, 0, 0, 0), (136, .iaload, 137, 0, 0, 0), (137, .aload_n 0, 138, 0, 0, 0), (138, .iload 4, 140, 0, 4, 0), (140, .iconst 5, 141, 5, 0, 0), (141, .iadd, 142, 0, 0, 0),
  (142, .iaload, 143, 0, 0, 0), (143, .ifCond .eq 7, 146, 0, 150, 0), (146, .iconst 1, 147, 1, 0, 0), (147, .goto 4, 150, 0, 151, 0), (150, .iconst 0, 151, 0, 0, 0), (151, .aload_n 3, 152, 0, 3, 0), (152, .invokestatic 68, 155, 5, 118, 7), (155, .istore 5, 157, 0, 5, 0),
  (157, .aload_n 2, 158, 0, 2, 0), (158, .aload_n 0, 159, 0, 0, 0), (159, .iload 4, 161, 0, 4, 0), (161, .iconst 1, 162, 1, 0, 0), (162, .iadd, 163, 0, 0, 0), (163, .iaload, 164, 0, 0, 0), (164, .aload_n 0, 165, 0, 0, 0), (165, .iload 4, 167, 0, 4, 0),
  (167, .iconst 2, 168, 2, 0, 0), (168, .iadd, 169, 0, 0, 0), (169, .iaload, 170, 0, 0, 0), (170, .aload_n 0, 171, 0, 0, 0), (171, .iload 4, 173, 0, 4, 0), (173, .iconst 3, 174, 3, 0, 0), (174, .iadd, 175, 0, 0, 0), (175, .iaload, 176, 0, 0, 0),
  (176, .aload_n 0, 177, 0, 0, 0), (177, .iload 4, 179, 0, 4, 0), (179, .iconst 4, 180, 4, 0, 0), (180, .iadd, 181, 0, 0, 0), (181, .iaload, 182, 0, 0, 0), (182, .aload_n 0, 183, 0, 0, 0), (183, .iload 4, 185, 0, 4, 0), (185, .iconst 5, 186, 5, 0, 0),
  (186, .iadd, 187, 0, 0, 0), (187, .iaload, 188, 0, 0, 0), (188, .ifCond .eq 7, 191, 0, 195, 0), (191, .iconst 1, 192, 1, 0, 0), (192, .goto 4, 195, 0, 196, 0), (195, .iconst 0, 196, 0, 0, 0), (196, .invokevirtual 71, 199, 0, 43, 5), (199, .istore 6, 201, 0, 6, 0),
  (201, .aload_n 2, 202, 0, 2, 0), (202, .invokevirtual 72, 205, 0, 19, 0), (205, .iload 5, 207, 0, 5, 0), (207, .if_icmp .eq 5, 210, 0, 212, 0), (210, .iconst 0, 211, 0, 0, 0), (211, .ireturn, 212, 0, 0, 0), (212, .iload 5, 214, 0, 5, 0), (214, .ifCond .ne 15, 217, 0, 229, 0),
  (217, .aload_n 3, 218, 0, 3, 0), (218, .iconst 0, 219, 0, 0, 0), (219, .laload, 220, 0, 0, 0), (220, .iload 6, 222, 0, 6, 0), (222, .i2l, 223, 0, 0, 0), (223, .lcmp, 224, 0, 0, 0), (224, .ifCond .eq 5, 227, 0, 229, 0), (227, .iconst 0, 228, 0, 0, 0),
  (228, .ireturn, 229, 0, 0, 0), (229, .goto 787, 232, 0, 1016, 0), (232, .aload_n 1, 233, 0, 1, 0), (233, .aload_n 0, 234, 0, 0, 0), (234, .iload 4, 236, 0, 4, 0), (236, .iconst 1, 237, 1, 0, 0), (237, .iadd, 238, 0, 0, 0), (238, .iaload, 239, 0, 0, 0),
  (239, .aload_n 0, 240, 0, 0, 0), (240, .iload 4, 242, 0, 4, 0), (242, .iconst 2, 243, 2, 0, 0), (243, .iadd, 244, 0, 0, 0), (244, .iaload, 245, 0, 0, 0), (245, .aload_n 0, 246, 0, 0, 0), (246, .iload 4, 248, 0, 4, 0), (248, .iconst 3, 249, 3, 0, 0),
  (249, .iadd, 250, 0, 0, 0), (250, .iaload, 251, 0, 0, 0), (251, .aload_n 0, 252, 0, 0, 0), (252, .iload 4, 254, 0, 4, 0), (254, .iconst 4, 255, 4, 0, 0), (255, .iadd, 256, 0, 0, 0), (256, .iaload, 257, 0, 0, 0), (257, .aload_n 0, 258, 0, 0, 0),
  (258, .iload 4, 260, 0, 4, 0), (260, .iconst 5, 261, 5, 0, 0), (261, .iadd, 262, 0, 0, 0), (262, .iaload, 263, 0, 0, 0), (263, .aload_n 3, 264, 0, 3, 0), (264, .invokestatic 76, 267, 5, 119, 7), (267, .istore 5, 269, 0, 5, 0), (269, .aload_n 2, 270, 0, 2, 0),
  (270, .aload_n 0, 271, 0, 0, 0), (271, .iload 4, 273, 0, 4, 0), (273, .iconst 1, 274, 1, 0, 0), (274, .iadd, 275, 0, 0, 0), (275, .iaload, 276, 0, 0, 0), (276, .aload_n 0, 277, 0, 0, 0), (277, .iload 4, 279, 0, 4, 0), (279, .iconst 2, 280, 2, 0, 0),
  (280, .iadd, 281, 0, 0, 0), (281, .iaload, 282, 0, 0, 0), (282, .aload_n 0, 283, 0, 0, 0), (283, .iload 4, 285, 0, 4, 0), (285, .iconst 3, 286, 3, 0, 0), (286, .iadd, 287, 0, 0, 0), (287, .iaload, 288, 0, 0, 0), (288, .aload_n 0, 289, 0, 0, 0),
  (289, .iload 4, 291, 0, 4, 0), (291, .iconst 4, 292, 4, 0, 0), (292, .iadd, 293, 0, 0, 0), (293, .iaload, 294, 0, 0, 0), (294, .aload_n 0, 295, 0, 0, 0), (295, .iload 4, 297, 0, 4, 0), (297, .iconst 5, 298, 5, 0, 0), (298, .iadd, 299, 0, 0, 0),
  (299, .iaload, 300, 0, 0, 0), (300, .invokevirtual 79, 303, 0, 45, 5), (303, .istore 6, 305, 0, 6, 0), (305, .aload_n 2, 306, 0, 2, 0), (306, .invokevirtual 72, 309, 0, 19, 0), (309, .iload 5, 311, 0, 5, 0), (311, .if_icmp .eq 5, 314, 0, 316, 0), (314, .iconst 0, 315, 0, 0, 0),
  (315, .ireturn, 316, 0, 0, 0), (316, .iload 5, 318, 0, 5, 0), (318, .ifCond .ne 15, 321, 0, 333, 0), (321, .aload_n 3, 322, 0, 3, 0), (322, .iconst 0, 323, 0, 0, 0), (323, .laload, 324, 0, 0, 0), (324, .iload 6, 326, 0, 6, 0), (326, .i2l, 327, 0, 0, 0),
  (327, .lcmp, 328, 0, 0, 0), (328, .ifCond .eq 5, 331, 0, 333, 0), (331, .iconst 0, 332, 0, 0, 0), (332, .ireturn, 333, 0, 0, 0), (333, .goto 683, 336, 0, 1016, 0), (336, .aload_n 1, 337, 0, 1, 0), (337, .aload_n 0, 338, 0, 0, 0), (338, .iload 4, 340, 0, 4, 0),
  (340, .iconst 1, 341, 1, 0, 0), (341, .iadd, 342, 0, 0, 0), (342, .iaload, 343, 0, 0, 0), (343, .aload_n 0, 344, 0, 0, 0), (344, .iload 4, 346, 0, 4, 0), (346, .iconst 2, 347, 2, 0, 0), (347, .iadd, 348, 0, 0, 0), (348, .iaload, 349, 0, 0, 0),
  (349, .aload_n 0, 350, 0, 0, 0), (350, .iload 4, 352, 0, 4, 0), (352, .iconst 3, 353, 3, 0, 0), (353, .iadd, 354, 0, 0, 0), (354, .iaload, 355, 0, 0, 0), (355, .aload_n 3, 356, 0, 3, 0), (356, .invokestatic 80, 359, 5, 120, 5), (359, .istore 5, 361, 0, 5, 0),
  (361, .aload_n 2, 362, 0, 2, 0), (362, .aload_n 0, 363, 0, 0, 0), (363, .iload 4, 365, 0, 4, 0), (365, .iconst 1, 366, 1, 0, 0), (366, .iadd, 367, 0, 0, 0), (367, .iaload, 368, 0, 0, 0), (368, .aload_n 0, 369, 0, 0, 0), (369, .iload 4, 371, 0, 4, 0),
  (371, .iconst 2, 372, 2, 0, 0), (372, .iadd, 373, 0, 0, 0), (373, .iaload, 374, 0, 0, 0), (374, .aload_n 0, 375, 0, 0, 0), (375, .iload 4, 377, 0, 4, 0), (377, .iconst 3, 378, 3, 0, 0), (378, .iadd, 379, 0, 0, 0), (379, .iaload, 380, 0, 0, 0),
  (380, .invokevirtual 83, 383, 0, 46, 3), (383, .istore 6, 385, 0, 6, 0), (385, .aload_n 2, 386, 0, 2, 0), (386, .invokevirtual 72, 389, 0, 19, 0), (389, .iload 5, 391, 0, 5, 0), (391, .if_icmp .eq 5, 394, 0, 396, 0), (394, .iconst 0, 395, 0, 0, 0), (395, .ireturn, 396, 0, 0, 0),
  (396, .iload 5, 398, 0, 5, 0), (398, .ifCond .ne 15, 401, 0, 413, 0), (401, .aload_n 3, 402, 0, 3, 0), (402, .iconst 0, 403, 0, 0, 0), (403, .laload, 404, 0, 0, 0), (404, .iload 6, 406, 0, 6, 0), (406, .i2l, 407, 0, 0, 0), (407, .lcmp, 408, 0, 0, 0),
  (408, .ifCond .eq 5, 411, 0, 413, 0), (411, .iconst 0, 412, 0, 0, 0), (412, .ireturn, 413, 0, 0, 0), (413, .goto 603, 416, 0, 1016, 0), (416, .aload_n 1, 417, 0, 1, 0), (417, .aload_n 0, 418, 0, 0, 0), (418, .iload 4, 420, 0, 4, 0), (420, .iconst 1, 421, 1, 0, 0),
  (421, .iadd, 422, 0, 0, 0), (422, .iaload, 423, 0, 0, 0), (423, .aload_n 0, 424, 0, 0, 0), (424, .iload 4, 426, 0, 4, 0), (426, .iconst 2, 427, 2, 0, 0), (427, .iadd, 428, 0, 0, 0), (428, .iaload, 429, 0, 0, 0), (429, .aload_n 0, 430, 0, 0, 0),
  (430, .iload 4, 432, 0, 4, 0), (432, .iconst 3, 433, 3, 0, 0), (433, .iadd, 434, 0, 0, 0), (434, .iaload, 435, 0, 0, 0), (435, .aload_n 0, 436, 0, 0, 0), (436, .iload 4, 438, 0, 4, 0), (438, .iconst 4, 439, 4, 0, 0), (439, .iadd, 440, 0, 0, 0),
  (440, .iaload, 441, 0, 0, 0), (441, .aload_n 3, 442, 0, 3, 0), (442, .invokestatic 84, 445, 5, 121, 6), (445, .istore 5, 447, 0, 5, 0), (447, .aload_n 2, 448, 0, 2, 0), (448, .aload_n 0, 449, 0, 0, 0), (449, .iload 4, 451, 0, 4, 0), (451, .iconst 1, 452, 1, 0, 0),
  (452, .iadd, 453, 0, 0, 0), (453, .iaload, 454, 0, 0, 0), (454, .aload_n 0, 455, 0, 0, 0), (455, .iload 4, 457, 0, 4, 0), (457, .iconst 2, 458, 2, 0, 0), (458, .iadd, 459, 0, 0, 0), (459, .iaload, 460, 0, 0, 0), (460, .aload_n 0, 461, 0, 0, 0),
  (461, .iload 4, 463, 0, 4, 0), (463, .iconst 3, 464, 3, 0, 0), (464, .iadd, 465, 0, 0, 0), (465, .iaload, 466, 0, 0, 0), (466, .aload_n 0, 467, 0, 0, 0), (467, .iload 4, 469, 0, 4, 0), (469, .iconst 4, 470, 4, 0, 0), (470, .iadd, 471, 0, 0, 0),
  (471, .iaload, 472, 0, 0, 0), (472, .invokevirtual 87, 475, 0, 47, 4), (475, .istore 6, 477, 0, 6, 0), (477, .aload_n 2, 478, 0, 2, 0), (478, .invokevirtual 72, 481, 0, 19, 0), (481, .iload 5, 483, 0, 5, 0), (483, .if_icmp .eq 5, 486, 0, 488, 0), (486, .iconst 0, 487, 0, 0, 0),
  (487, .ireturn, 488, 0, 0, 0), (488, .iload 5, 490, 0, 5, 0), (490, .ifCond .ne 15, 493, 0, 505, 0), (493, .aload_n 3, 494, 0, 3, 0), (494, .iconst 0, 495, 0, 0, 0), (495, .laload, 496, 0, 0, 0), (496, .iload 6, 498, 0, 6, 0), (498, .i2l, 499, 0, 0, 0),
  (499, .lcmp, 500, 0, 0, 0), (500, .ifCond .eq 5, 503, 0, 505, 0), (503, .iconst 0, 504, 0, 0, 0), (504, .ireturn, 505, 0, 0, 0), (505, .goto 511, 508, 0, 1016, 0), (508, .aload_n 1, 509, 0, 1, 0), (509, .aload_n 0, 510, 0, 0, 0), (510, .iload 4, 512, 0, 4, 0),
  (512, .iconst 1, 513, 1, 0, 0), (513, .iadd, 514, 0, 0, 0), (514, .iaload, 515, 0, 0, 0), (515, .aload_n 0, 516, 0, 0, 0), (516, .iload 4, 518, 0, 4, 0), (518, .iconst 2, 519, 2, 0, 0), (519, .iadd, 520, 0, 0, 0), (520, .iaload, 521, 0, 0, 0),
  (521, .aload_n 0, 522, 0, 0, 0), (522, .iload 4, 524, 0, 4, 0), (524, .iconst 3, 525, 3, 0, 0), (525, .iadd, 526, 0, 0, 0), (526, .iaload, 527, 0, 0, 0), (527, .aload_n 3, 528, 0, 3, 0), (528, .invokestatic 88, 531, 5, 122, 5), (531, .istore 5, 533, 0, 5, 0),
  (533, .aload_n 2, 534, 0, 2, 0), (534, .aload_n 0, 535, 0, 0, 0), (535, .iload 4, 537, 0, 4, 0), (537, .iconst 1, 538, 1, 0, 0), (538, .iadd, 539, 0, 0, 0), (539, .iaload, 540, 0, 0, 0), (540, .aload_n 0, 541, 0, 0, 0), (541, .iload 4, 543, 0, 4, 0),
  (543, .iconst 2, 544, 2, 0, 0), (544, .iadd, 545, 0, 0, 0), (545, .iaload, 546, 0, 0, 0), (546, .aload_n 0, 547, 0, 0, 0), (547, .iload 4, 549, 0, 4, 0), (549, .iconst 3, 550, 3, 0, 0), (550, .iadd, 551, 0, 0, 0), (551, .iaload, 552, 0, 0, 0),
  (552, .invokevirtual 90, 555, 0, 48, 3), (555, .istore 6, 557, 0, 6, 0), (557, .aload_n 2, 558, 0, 2, 0), (558, .invokevirtual 72, 561, 0, 19, 0), (561, .iload 5, 563, 0, 5, 0), (563, .if_icmp .eq 5, 566, 0, 568, 0), (566, .iconst 0, 567, 0, 0, 0), (567, .ireturn, 568, 0, 0, 0),
  (568, .iload 5, 570, 0, 5, 0), (570, .ifCond .ne 15, 573, 0, 585, 0), (573, .aload_n 3, 574, 0, 3, 0), (574, .iconst 0, 575, 0, 0, 0), (575, .laload, 576, 0, 0, 0), (576, .iload 6, 578, 0, 6, 0), (578, .i2l, 579, 0, 0, 0), (579, .lcmp, 580, 0, 0, 0),
  (580, .ifCond .eq 5, 583, 0, 585, 0), (583, .iconst 0, 584, 0, 0, 0), (584, .ireturn, 585, 0, 0, 0), (585, .goto 431, 588, 0, 1016, 0), (588, .aload_n 1, 589, 0, 1, 0), (589, .aload_n 0, 590, 0, 0, 0), (590, .iload 4, 592, 0, 4, 0), (592, .iconst 1, 593, 1, 0, 0),
  (593, .iadd, 594, 0, 0, 0), (594, .iaload, 595, 0, 0, 0), (595, .aload_n 0, 596, 0, 0, 0), (596, .iload 4, 598, 0, 4, 0), (598, .iconst 2, 599, 2, 0, 0), (599, .iadd, 600, 0, 0, 0), (600, .iaload, 601, 0, 0, 0), (601, .aload_n 3, 602, 0, 3, 0),
  (602, .invokestatic 91, 605, 5, 123, 4), (605, .istore 5, 607, 0, 5, 0), (607, .aload_n 2, 608, 0, 2, 0), (608, .aload_n 0, 609, 0, 0, 0), (609, .iload 4, 611, 0, 4, 0), (611, .iconst 1, 612, 1, 0, 0), (612, .iadd, 613, 0, 0, 0), (613, .iaload, 614, 0, 0, 0),
  (614, .aload_n 0, 615, 0, 0, 0), (615, .iload 4, 617, 0, 4, 0), (617, .iconst 2, 618, 2, 0, 0), (618, .iadd, 619, 0, 0, 0), (619, .iaload, 620, 0, 0, 0), (620, .invokevirtual 94, 623, 0, 50, 2), (623, .istore 6, 625, 0, 6, 0), (625, .aload_n 2, 626, 0, 2, 0),
  (626, .invokevirtual 72, 629, 0, 19, 0), (629, .iload 5, 631, 0, 5, 0), (631, .if_icmp .eq 5, 634, 0, 636, 0), (634, .iconst 0, 635, 0, 0, 0), (635, .ireturn, 636, 0, 0, 0), (636, .iload 5, 638, 0, 5, 0), (638, .ifCond .ne 15, 641, 0, 653, 0), (641, .aload_n 3, 642, 0, 3, 0),
  (642, .iconst 0, 643, 0, 0, 0), (643, .laload, 644, 0, 0, 0), (644, .iload 6, 646, 0, 6, 0), (646, .i2l, 647, 0, 0, 0), (647, .lcmp, 648, 0, 0, 0), (648, .ifCond .eq 5, 651, 0, 653, 0), (651, .iconst 0, 652, 0, 0, 0), (652, .ireturn, 653, 0, 0, 0),
  (653, .goto 363, 656, 0, 1016, 0), (656, .aload_n 1, 657, 0, 1, 0), (657, .aload_n 0, 658, 0, 0, 0), (658, .iload 4, 660, 0, 4, 0), (660, .iconst 1, 661, 1, 0, 0), (661, .iadd, 662, 0, 0, 0), (662, .iaload, 663, 0, 0, 0), (663, .aload_n 0, 664, 0, 0, 0),
  (664, .iload 4, 666, 0, 4, 0), (666, .iconst 2, 667, 2, 0, 0), (667, .iadd, 668, 0, 0, 0), (668, .iaload, 669, 0, 0, 0), (669, .aload_n 3, 670, 0, 3, 0), (670, .invokestatic 95, 673, 5, 124, 4), (673, .istore 5, 675, 0, 5, 0), (675, .aload_n 2, 676, 0, 2, 0),
  (676, .aload_n 0, 677, 0, 0, 0), (677, .iload 4, 679, 0, 4, 0), (679, .iconst 1, 680, 1, 0, 0), (680, .iadd, 681, 0, 0, 0), (681, .iaload, 682, 0, 0, 0), (682, .aload_n 0, 683, 0, 0, 0), (683, .iload 4, 685, 0, 4, 0), (685, .iconst 2, 686, 2, 0, 0),
  (686, .iadd, 687, 0, 0, 0), (687, .iaload, 688, 0, 0, 0), (688, .invokevirtual 97, 691, 0, 51, 2), (691, .istore 6, 693, 0, 6, 0), (693, .aload_n 2, 694, 0, 2, 0), (694, .invokevirtual 72, 697, 0, 19, 0), (697, .iload 5, 699, 0, 5, 0), (699, .if_icmp .eq 5, 702, 0, 704, 0),
  (702, .iconst 0, 703, 0, 0, 0), (703, .ireturn, 704, 0, 0, 0), (704, .iload 5, 706, 0, 5, 0), (706, .ifCond .ne 22, 709, 0, 728, 0), (709, .aload_n 3, 710, 0, 3, 0), (710, .iconst 0, 711, 0, 0, 0), (711, .laload, 712, 0, 0, 0), (712, .iload 6, 714, 0, 6, 0),
  (714, .ifCond .eq 7, 717, 0, 721, 0), (717, .lconst 1, 718, 1, 0, 0), (718, .goto 4, 721, 0, 722, 0), (721, .lconst 0, 722, 0, 0, 0), (722, .lcmp, 723, 0, 0, 0), (723, .ifCond .eq 5, 726, 0, 728, 0), (726, .iconst 0, 727, 0, 0, 0), (727, .ireturn, 728, 0, 0, 0),
  (728, .goto 288, 731, 0, 1016, 0), (731, .aload_n 1, 732, 0, 1, 0), (732, .aload_n 0, 733, 0, 0, 0), (733, .iload 4, 735, 0, 4, 0), (735, .iconst 1, 736, 1, 0, 0), (736, .iadd, 737, 0, 0, 0), (737, .iaload, 738, 0, 0, 0), (738, .aload_n 0, 739, 0, 0, 0),
  (739, .iload 4, 741, 0, 4, 0), (741, .iconst 2, 742, 2, 0, 0), (742, .iadd, 743, 0, 0, 0), (743, .iaload, 744, 0, 0, 0), (744, .aload_n 3, 745, 0, 3, 0), (745, .invokestatic 98, 748, 5, 125, 4), (748, .istore 5, 750, 0, 5, 0), (750, .aload_n 2, 751, 0, 2, 0),
  (751, .aload_n 0, 752, 0, 0, 0), (752, .iload 4, 754, 0, 4, 0), (754, .iconst 1, 755, 1, 0, 0), (755, .iadd, 756, 0, 0, 0), (756, .iaload, 757, 0, 0, 0), (757, .aload_n 0, 758, 0, 0, 0), (758, .iload 4, 760, 0, 4, 0), (760, .iconst 2, 761, 2, 0, 0),
  (761, .iadd, 762, 0, 0, 0), (762, .iaload, 763, 0, 0, 0), (763, .invokevirtual 100, 766, 0, 52, 2), (766, .istore 6, 768, 0, 6, 0), (768, .aload_n 2, 769, 0, 2, 0), (769, .invokevirtual 72, 772, 0, 19, 0), (772, .iload 5, 774, 0, 5, 0), (774, .if_icmp .eq 5, 777, 0, 779, 0),
  (777, .iconst 0, 778, 0, 0, 0), (778, .ireturn, 779, 0, 0, 0), (779, .iload 5, 781, 0, 5, 0), (781, .ifCond .ne 15, 784, 0, 796, 0), (784, .aload_n 3, 785, 0, 3, 0), (785, .iconst 0, 786, 0, 0, 0), (786, .laload, 787, 0, 0, 0), (787, .iload 6, 789, 0, 6, 0),
  (789, .i2l, 790, 0, 0, 0), (790, .lcmp, 791, 0, 0, 0), (791, .ifCond .eq 5, 794, 0, 796, 0), (794, .iconst 0, 795, 0, 0, 0), (795, .ireturn, 796, 0, 0, 0), (796, .goto 220, 799, 0, 1016, 0), (799, .aload_n 1, 800, 0, 1, 0), (800, .aload_n 0, 801, 0, 0, 0),
  (801, .iload 4, 803, 0, 4, 0), (803, .iconst 1, 804, 1, 0, 0), (804, .iadd, 805, 0, 0, 0), (805, .iaload, 806, 0, 0, 0), (806, .aload_n 0, 807, 0, 0, 0), (807, .iload 4, 809, 0, 4, 0), (809, .iconst 2, 810, 2, 0, 0), (810, .iadd, 811, 0, 0, 0),
  (811, .iaload, 812, 0, 0, 0), (812, .aload_n 3, 813, 0, 3, 0), (813, .invokestatic 101, 816, 5, 126, 4), (816, .istore 5, 818, 0, 5, 0), (818, .aload_n 2, 819, 0, 2, 0), (819, .aload_n 0, 820, 0, 0, 0), (820, .iload 4, 822, 0, 4, 0), (822, .iconst 1, 823, 1, 0, 0),
  (823, .iadd, 824, 0, 0, 0), (824, .iaload, 825, 0, 0, 0), (825, .aload_n 0, 826, 0, 0, 0), (826, .iload 4, 828, 0, 4, 0), (828, .iconst 2, 829, 2, 0, 0), (829, .iadd, 830, 0, 0, 0), (830, .iaload, 831, 0, 0, 0), (831, .invokevirtual 103, 834, 0, 53, 2),
  (834, .istore 6, 836, 0, 6, 0), (836, .aload_n 2, 837, 0, 2, 0), (837, .invokevirtual 72, 840, 0, 19, 0), (840, .iload 5, 842, 0, 5, 0), (842, .if_icmp .eq 5, 845, 0, 847, 0), (845, .iconst 0, 846, 0, 0, 0), (846, .ireturn, 847, 0, 0, 0), (847, .iload 5, 849, 0, 5, 0),
  (849, .ifCond .ne 15, 852, 0, 864, 0), (852, .aload_n 3, 853, 0, 3, 0), (853, .iconst 0, 854, 0, 0, 0), (854, .laload, 855, 0, 0, 0), (855, .iload 6, 857, 0, 6, 0), (857, .i2l, 858, 0, 0, 0), (858, .lcmp, 859, 0, 0, 0), (859, .ifCond .eq 5, 862, 0, 864, 0),
  (862, .iconst 0, 863, 0, 0, 0), (863, .ireturn, 864, 0, 0, 0), (864, .goto 152, 867, 0, 1016, 0), (867, .aload_n 1, 868, 0, 1, 0), (868, .invokevirtual 104, 871, 0, 10, 0), (871, .aload_n 2, 872, 0, 2, 0), (872, .invokevirtual 107, 875, 0, 21, 0), (875, .if_icmp .eq 141, 878, 0, 1016, 0),
  (878, .iconst 0, 879, 0, 0, 0), (879, .ireturn, 880, 0, 0, 0), (880, .aload_n 1, 881, 0, 1, 0), (881, .aload_n 0, 882, 0, 0, 0), (882, .iload 4, 884, 0, 4, 0), (884, .iconst 1, 885, 1, 0, 0), (885, .iadd, 886, 0, 0, 0), (886, .iaload, 887, 0, 0, 0),
  (887, .aload_n 0, 888, 0, 0, 0), (888, .iload 4, 890, 0, 4, 0), (890, .iconst 2, 891, 2, 0, 0), (891, .iadd, 892, 0, 0, 0), (892, .iaload, 893, 0, 0, 0), (893, .aload_n 3, 894, 0, 3, 0), (894, .invokestatic 108, 897, 5, 127, 4), (897, .istore 5, 899, 0, 5, 0),
  (899, .aload_n 2, 900, 0, 2, 0), (900, .aload_n 0, 901, 0, 0, 0), (901, .iload 4, 903, 0, 4, 0), (903, .iconst 1, 904, 1, 0, 0), (904, .iadd, 905, 0, 0, 0), (905, .iaload, 906, 0, 0, 0), (906, .aload_n 0, 907, 0, 0, 0), (907, .iload 4, 909, 0, 4, 0),
  (909, .iconst 2, 910, 2, 0, 0), (910, .iadd, 911, 0, 0, 0), (911, .iaload, 912, 0, 0, 0), (912, .invokevirtual 110, 915, 0, 60, 2), (915, .istore 6, 917, 0, 6, 0), (917, .aload_n 2, 918, 0, 2, 0), (918, .invokevirtual 72, 921, 0, 19, 0), (921, .iload 5, 923, 0, 5, 0),
  (923, .if_icmp .eq 5, 926, 0, 928, 0), (926, .iconst 0, 927, 0, 0, 0), (927, .ireturn, 928, 0, 0, 0), (928, .iload 5, 930, 0, 5, 0), (930, .ifCond .ne 15, 933, 0, 945, 0), (933, .aload_n 3, 934, 0, 3, 0), (934, .iconst 0, 935, 0, 0, 0), (935, .laload, 936, 0, 0, 0),
  (936, .iload 6, 938, 0, 6, 0), (938, .i2l, 939, 0, 0, 0), (939, .lcmp, 940, 0, 0, 0), (940, .ifCond .eq 5, 943, 0, 945, 0), (943, .iconst 0, 944, 0, 0, 0), (944, .ireturn, 945, 0, 0, 0), (945, .goto 71, 948, 0, 1016, 0), (948, .aload_n 1, 949, 0, 1, 0),
  (949, .aload_n 0, 950, 0, 0, 0), (950, .iload 4, 952, 0, 4, 0), (952, .iconst 1, 953, 1, 0, 0), (953, .iadd, 954, 0, 0, 0), (954, .iaload, 955, 0, 0, 0), (955, .aload_n 0, 956, 0, 0, 0), (956, .iload 4, 958, 0, 4, 0), (958, .iconst 2, 959, 2, 0, 0),
  (959, .iadd, 960, 0, 0, 0), (960, .iaload, 961, 0, 0, 0), (961, .aload_n 3, 962, 0, 3, 0), (962, .invokestatic 111, 965, 5, 128, 4), (965, .istore 5, 967, 0, 5, 0), (967, .aload_n 2, 968, 0, 2, 0), (968, .aload_n 0, 969, 0, 0, 0), (969, .iload 4, 971, 0, 4, 0),
  (971, .iconst 1, 972, 1, 0, 0), (972, .iadd, 973, 0, 0, 0), (973, .iaload, 974, 0, 0, 0), (974, .aload_n 0, 975, 0, 0, 0), (975, .iload 4, 977, 0, 4, 0), (977, .iconst 2, 978, 2, 0, 0), (978, .iadd, 979, 0, 0, 0), (979, .iaload, 980, 0, 0, 0),
  (980, .invokevirtual 113, 983, 0, 61, 2), (983, .istore 6, 985, 0, 6, 0), (985, .aload_n 2, 986, 0, 2, 0), (986, .invokevirtual 72, 989, 0, 19, 0), (989, .iload 5, 991, 0, 5, 0), (991, .if_icmp .eq 5, 994, 0, 996, 0), (994, .iconst 0, 995, 0, 0, 0), (995, .ireturn, 996, 0, 0, 0),
  (996, .iload 5, 998, 0, 5, 0), (998, .ifCond .ne 15, 1001, 0, 1013, 0), (1001, .aload_n 3, 1002, 0, 3, 0), (1002, .iconst 0, 1003, 0, 0, 0), (1003, .laload, 1004, 0, 0, 0), (1004, .iload 6, 1006, 0, 6, 0), (1006, .i2l, 1007, 0, 0, 0), (1007, .lcmp, 1008, 0, 0, 0),
  (1008, .ifCond .eq 5, 1011, 0, 1013, 0), (1011, .iconst 0, 1012, 0, 0, 0), (1012, .ireturn, 1013, 0, 0, 0), (1013, .goto 3, 1016, 0, 1016, 0), (1016, .iinc 4 6, 1019, 6, 4, 0), (1019, .goto (-986), 1022, 0, 33, 0), (1022, .iconst 1, 1023, 1, 0, 0), (1023, .ireturn, 1024, 0, 0, 0)])
def gMs : List gM := [m_ET_init, m_ET_put, m_ET_spread, m_ET_punch, m_ET_strip, m_ET_write, m_ET_look, m_ET_written, m_ET_reach, m_ET_count, m_ET_free, m_ET_rootByte, m_ET_nodeByte, m_ET_isFile, m_ET_areFileBlocks, m_ET_areVolumeBlocks, m_ET_isSeries, m_ET_longest, m_Mod_init, m_Mod_thrown, m_Mod_takeBlock, m_Mod_free, m_Mod_freeBlocks, m_Mod_levelOf, m_Mod_levelEnd, m_Mod_insertNode, m_Mod_removeNode, m_Mod_findWay, m_Mod_enter, m_Mod_leave, m_Mod_shrink, m_Mod_runs, m_Mod_insertRun, m_Mod_removeRun, m_Mod_shift, m_Mod_behind, m_Mod_joins, m_Mod_enterRun, m_Mod_takeOut, m_Mod_noRange, m_Mod_isTight, m_Mod_noVolume, m_Mod_tryPut, m_Mod_put, m_Mod_noSteps, m_Mod_spread, m_Mod_punch, m_Mod_strip, m_Mod_write, m_Mod_noBlock, m_Mod_look, m_Mod_written, m_Mod_reach, m_Mod_count, m_Mod_byteIn, m_Mod_headByte, m_Mod_firstRun, m_Mod_runByte, m_Mod_nodeEntryByte, m_Mod_bytesOf, m_Mod_rootByte, m_Mod_nodeByte, m_Node_init, m_Node_isFull, m_Node_hasEntry, m_Node_word, m_Node_firstAt, m_Node_belowAt, m_Node_lengthAt, m_Node_isWrittenAt, m_Node_volumeAt, m_Node_setFirst, m_Node_setEntry, m_Node_lastUpTo, m_Node_insert, m_Node_remove, m_Node_moveTail, m_Node_byteAt, m_Node_wordOfBytes, m_Pool_init, m_Pool_node, m_Pool_isTaken, m_Pool_takeLeast, m_Pool_giveBack, m_Tree_init, m_Tree_leaves, m_Tree_roomForOne, m_Tree_roomForTwo, m_Tree_find, m_Tree_runFirst, m_Tree_runLength, m_Tree_runEnd, m_Tree_runVolume, m_Tree_runIsWritten, m_Tree_setRun, m_Tree_marked, m_Tree_nextFirst, m_Tree_hasAny, m_Tree_hasUnwritten, m_Tree_volumeOf, m_Tree_isWritten, m_Tree_alikeFrom, m_Tree_putIn, m_Tree_lengthToJoinBefore, m_Tree_lengthToJoinBehind, m_Tree_takeOutAll, m_Tree_takeOutOfRun, m_Tree_countMapped, m_Tree_insertRun, m_Tree_levelWithRoom, m_Tree_growRoot, m_Tree_splitBlock, m_Tree_removeRun, m_Tree_refreshFirsts, m_Tree_settle, m_Tree_giveBack, m_Tree_countBlock, m_Law_cell, m_Law_put, m_Law_spread, m_Law_punch, m_Law_strip, m_Law_write, m_Law_look, m_Law_written, m_Law_reach, m_Law_count, m_Law_rootByte, m_Law_nodeByte]
