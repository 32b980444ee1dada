-- classes: their fields in the order of the file
def TC0 : u_T := fun k => match k with
  | 0 => ("CapKernel", "clients", "[LCapKernel$Client;", true)
  | 1 => ("CapKernel", "filesEndpoint", "LCapKernel$Thing;", true)
  | 2 => ("CapKernel", "fileServer", "LCapKernel$FileServer;", true)
  | 3 => ("CapKernel", "made", "I", false)
  | 4 => ("CapKernel", "stillThere", "I", false)
  | 5 => ("CapKernel", "stamps", "I", false)
  | _ => ("CapKernel", "capabilities", "Ljava/util/ArrayList;", true)
def tC0 : Nat → FieldType := fun k => match k with
  | 0 => .array (.object "CapKernel$Client")
  | 1 => .object "CapKernel$Thing"
  | 2 => .object "CapKernel$FileServer"
  | 3 => .int
  | 4 => .int
  | 5 => .int
  | _ => .object "java/util/ArrayList"
theorem nmC0 : ∀ a, a < 7 → ∀ b, b < 7 → a ≠ b → (TC0 a).2.1 ≠ (TC0 b).2.1 := by decide +kernel
theorem okC0 : ∀ k, k < 7 → parseFieldDescriptor (TC0 k).2.2.1 = some (tC0 k) := by decide +kernel
def TC1 : u_T := fun k => match k with
  | 0 => ("CapKernel$Capability", "thing", "LCapKernel$Thing;", true)
  | 1 => ("CapKernel$Capability", "rights", "I", true)
  | 2 => ("CapKernel$Capability", "badge", "I", true)
  | 3 => ("CapKernel$Capability", "from", "LCapKernel$Capability;", false)
  | 4 => ("CapKernel$Capability", "table", "LCapKernel$Thing;", false)
  | 5 => ("CapKernel$Capability", "slot", "I", false)
  | _ => ("CapKernel$Capability", "gone", "Z", false)
def tC1 : Nat → FieldType := fun k => match k with
  | 0 => .object "CapKernel$Thing"
  | 1 => .int
  | 2 => .int
  | 3 => .object "CapKernel$Capability"
  | 4 => .object "CapKernel$Thing"
  | 5 => .int
  | _ => .boolean
theorem nmC1 : ∀ a, a < 7 → ∀ b, b < 7 → a ≠ b → (TC1 a).2.1 ≠ (TC1 b).2.1 := by decide +kernel
theorem okC1 : ∀ k, k < 7 → parseFieldDescriptor (TC1 k).2.2.1 = some (tC1 k) := by decide +kernel
def TC2 : u_T := fun k => match k with
  | 0 => ("CapKernel$Client", "number", "I", true)
  | 1 => ("CapKernel$Client", "root", "LCapKernel$Thing;", true)
  | 2 => ("CapKernel$Client", "state", "I", false)
  | 3 => ("CapKernel$Client", "outcome", "I", false)
  | 4 => ("CapKernel$Client", "word", "I", false)
  | 5 => ("CapKernel$Client", "badge", "I", false)
  | 6 => ("CapKernel$Client", "address", "I", false)
  | 7 => ("CapKernel$Client", "priority", "I", false)
  | 8 => ("CapKernel$Client", "place", "I", false)
  | 9 => ("CapKernel$Client", "since", "I", false)
  | 10 => ("CapKernel$Client", "waitsAt", "LCapKernel$Thing;", false)
  | 11 => ("CapKernel$Client", "sentWord", "I", false)
  | 12 => ("CapKernel$Client", "sentBadge", "I", false)
  | 13 => ("CapKernel$Client", "sent", "LCapKernel$Capability;", false)
  | 14 => ("CapKernel$Client", "intoTable", "LCapKernel$Thing;", false)
  | 15 => ("CapKernel$Client", "into", "I", false)
  | 16 => ("CapKernel$Client", "calls", "I", false)
  | 17 => ("CapKernel$Client", "asker", "LCapKernel$Client;", false)
  | _ => ("CapKernel$Client", "askersCall", "I", false)
def tC2 : Nat → FieldType := fun k => match k with
  | 0 => .int
  | 1 => .object "CapKernel$Thing"
  | 2 => .int
  | 3 => .int
  | 4 => .int
  | 5 => .int
  | 6 => .int
  | 7 => .int
  | 8 => .int
  | 9 => .int
  | 10 => .object "CapKernel$Thing"
  | 11 => .int
  | 12 => .int
  | 13 => .object "CapKernel$Capability"
  | 14 => .object "CapKernel$Thing"
  | 15 => .int
  | 16 => .int
  | 17 => .object "CapKernel$Client"
  | _ => .int
theorem nmC2 : ∀ a, a < 19 → ∀ b, b < 19 → a ≠ b → (TC2 a).2.1 ≠ (TC2 b).2.1 := by decide +kernel
theorem okC2 : ∀ k, k < 19 → parseFieldDescriptor (TC2 k).2.2.1 = some (tC2 k) := by decide +kernel
def TC3 : u_T := fun k => match k with
  | 0 => ("CapKernel$Driver", "disk", "[I", true)
  | 1 => ("CapKernel$Driver", "blocksRead", "I", false)
  | _ => ("CapKernel$Driver", "blocksWritten", "I", false)
def tC3 : Nat → FieldType := fun k => match k with
  | 0 => .array .int
  | 1 => .int
  | _ => .int
theorem nmC3 : ∀ a, a < 3 → ∀ b, b < 3 → a ≠ b → (TC3 a).2.1 ≠ (TC3 b).2.1 := by decide +kernel
theorem okC3 : ∀ k, k < 3 → parseFieldDescriptor (TC3 k).2.2.1 = some (tC3 k) := by decide +kernel
def TC4 : u_T := fun k => match k with
  | 0 => ("CapKernel$FileServer", "driver", "LCapKernel$Driver;", true)
  | 1 => ("CapKernel$FileServer", "taken", "[Z", true)
  | 2 => ("CapKernel$FileServer", "owners", "[I", true)
  | 3 => ("CapKernel$FileServer", "files", "[I", true)
  | _ => ("CapKernel$FileServer", "buffer", "[I", true)
def tC4 : Nat → FieldType := fun k => match k with
  | 0 => .object "CapKernel$Driver"
  | 1 => .array .boolean
  | 2 => .array .int
  | 3 => .array .int
  | _ => .array .int
theorem nmC4 : ∀ a, a < 5 → ∀ b, b < 5 → a ≠ b → (TC4 a).2.1 ≠ (TC4 b).2.1 := by decide +kernel
theorem okC4 : ∀ k, k < 5 → parseFieldDescriptor (TC4 k).2.2.1 = some (tC4 k) := by decide +kernel
def TC5 : u_T := fun k => match k with
  | 0 => ("CapKernel$Thing", "kind", "I", true)
  | 1 => ("CapKernel$Thing", "size", "I", true)
  | 2 => ("CapKernel$Thing", "server", "I", true)
  | 3 => ("CapKernel$Thing", "slots", "[LCapKernel$Capability;", true)
  | 4 => ("CapKernel$Thing", "number", "I", false)
  | 5 => ("CapKernel$Thing", "used", "I", false)
  | 6 => ("CapKernel$Thing", "bits", "I", false)
  | 7 => ("CapKernel$Thing", "holders", "I", false)
  | 8 => ("CapKernel$Thing", "madeOfIt", "I", false)
  | 9 => ("CapKernel$Thing", "gone", "Z", false)
  | _ => ("CapKernel$Thing", "madeOf", "LCapKernel$Thing;", false)
def tC5 : Nat → FieldType := fun k => match k with
  | 0 => .int
  | 1 => .int
  | 2 => .int
  | 3 => .array (.object "CapKernel$Capability")
  | 4 => .int
  | 5 => .int
  | 6 => .int
  | 7 => .int
  | 8 => .int
  | 9 => .boolean
  | _ => .object "CapKernel$Thing"
theorem nmC5 : ∀ a, a < 11 → ∀ b, b < 11 → a ≠ b → (TC5 a).2.1 ≠ (TC5 b).2.1 := by decide +kernel
theorem okC5 : ∀ k, k < 11 → parseFieldDescriptor (TC5 k).2.2.1 = some (tC5 k) := by decide +kernel
def TC6 : u_T := fun k => match k with
  | 0 => ("CapKernelModel", "code", "I", false)
  | 1 => ("CapKernelModel", "kind", "[I", true)
  | 2 => ("CapKernelModel", "size", "[I", true)
  | 3 => ("CapKernelModel", "used", "[I", true)
  | 4 => ("CapKernelModel", "bits", "[I", true)
  | 5 => ("CapKernelModel", "origin", "[I", true)
  | 6 => ("CapKernelModel", "there", "[Z", true)
  | 7 => ("CapKernelModel", "objects", "I", false)
  | 8 => ("CapKernelModel", "of", "[I", true)
  | 9 => ("CapKernelModel", "rights", "[I", true)
  | 10 => ("CapKernelModel", "badge", "[I", true)
  | 11 => ("CapKernelModel", "parent", "[I", true)
  | 12 => ("CapKernelModel", "lives", "[Z", true)
  | 13 => ("CapKernelModel", "made", "I", false)
  | 14 => ("CapKernelModel", "slot", "[I", true)
  | 15 => ("CapKernelModel", "state", "[I", true)
  | 16 => ("CapKernelModel", "outcome", "[I", true)
  | 17 => ("CapKernelModel", "word", "[I", true)
  | 18 => ("CapKernelModel", "badgeCame", "[I", true)
  | 19 => ("CapKernelModel", "address", "[I", true)
  | 20 => ("CapKernelModel", "priority", "[I", true)
  | 21 => ("CapKernelModel", "inLine", "[I", true)
  | 22 => ("CapKernelModel", "waitsAt", "[I", true)
  | 23 => ("CapKernelModel", "since", "[I", true)
  | 24 => ("CapKernelModel", "message", "[I", true)
  | 25 => ("CapKernelModel", "messageBadge", "[I", true)
  | 26 => ("CapKernelModel", "gift", "[I", true)
  | 27 => ("CapKernelModel", "into", "[I", true)
  | 28 => ("CapKernelModel", "callNumber", "[I", true)
  | 29 => ("CapKernelModel", "caller", "[I", true)
  | 30 => ("CapKernelModel", "callerNumber", "[I", true)
  | 31 => ("CapKernelModel", "clock", "I", false)
  | 32 => ("CapKernelModel", "pile", "[I", true)
  | 33 => ("CapKernelModel", "piled", "I", false)
  | 34 => ("CapKernelModel", "block", "[I", true)
  | 35 => ("CapKernelModel", "cells", "[I", true)
  | 36 => ("CapKernelModel", "reads", "I", false)
  | 37 => ("CapKernelModel", "writes", "I", false)
  | 38 => ("CapKernelModel", "at", "I", false)
  | 39 => ("CapKernelModel", "cap", "I", false)
  | 40 => ("CapKernelModel", "goal", "I", false)
  | _ => ("CapKernelModel", "slotSaid", "[I", true)
def tC6 : Nat → FieldType := fun k => match k with
  | 0 => .int
  | 1 => .array .int
  | 2 => .array .int
  | 3 => .array .int
  | 4 => .array .int
  | 5 => .array .int
  | 6 => .array .boolean
  | 7 => .int
  | 8 => .array .int
  | 9 => .array .int
  | 10 => .array .int
  | 11 => .array .int
  | 12 => .array .boolean
  | 13 => .int
  | 14 => .array .int
  | 15 => .array .int
  | 16 => .array .int
  | 17 => .array .int
  | 18 => .array .int
  | 19 => .array .int
  | 20 => .array .int
  | 21 => .array .int
  | 22 => .array .int
  | 23 => .array .int
  | 24 => .array .int
  | 25 => .array .int
  | 26 => .array .int
  | 27 => .array .int
  | 28 => .array .int
  | 29 => .array .int
  | 30 => .array .int
  | 31 => .int
  | 32 => .array .int
  | 33 => .int
  | 34 => .array .int
  | 35 => .array .int
  | 36 => .int
  | 37 => .int
  | 38 => .int
  | 39 => .int
  | 40 => .int
  | _ => .array .int
theorem nmC6 : ∀ a, a < 42 → ∀ b, b < 42 → a ≠ b → (TC6 a).2.1 ≠ (TC6 b).2.1 := by decide +kernel
theorem okC6 : ∀ k, k < 42 → parseFieldDescriptor (TC6 k).2.2.1 = some (tC6 k) := by decide +kernel
def TC7 : u_T := fun k => match k with
  | 0 => ("java/util/ArrayList", "elementData", "[Ljava/lang/Object;", false)
  | 1 => ("java/util/AbstractList", "modCount", "I", false)
  | _ => ("java/util/ArrayList", "size", "I", false)
def tC7 : Nat → FieldType := fun k => match k with
  | 0 => .array (.object "java/lang/Object")
  | 1 => .int
  | _ => .int
theorem nmC7 : ∀ a, a < 3 → ∀ b, b < 3 → a ≠ b → (TC7 a).2.1 ≠ (TC7 b).2.1 := by decide +kernel
theorem okC7 : ∀ k, k < 3 → parseFieldDescriptor (TC7 k).2.2.1 = some (tC7 k) := by decide +kernel
def TC8 : u_T := fun k => match k with
  | 0 => ("java/lang/Throwable", "backtrace", "Ljava/lang/Object;", false)
  | 1 => ("java/lang/Throwable", "cause", "Ljava/lang/Throwable;", false)
  | 2 => ("java/lang/Throwable", "depth", "I", false)
  | 3 => ("java/lang/Throwable", "detailMessage", "Ljava/lang/String;", false)
  | 4 => ("java/lang/Throwable", "stackTrace", "[Ljava/lang/StackTraceElement;", false)
  | _ => ("java/lang/Throwable", "suppressedExceptions", "Ljava/util/List;", false)
def tC8 : Nat → FieldType := fun k => match k with
  | 0 => .object "java/lang/Object"
  | 1 => .object "java/lang/Throwable"
  | 2 => .int
  | 3 => .object "java/lang/String"
  | 4 => .array (.object "java/lang/StackTraceElement")
  | _ => .object "java/util/List"
theorem nmC8 : ∀ a, a < 6 → ∀ b, b < 6 → a ≠ b → (TC8 a).2.1 ≠ (TC8 b).2.1 := by decide +kernel
theorem okC8 : ∀ k, k < 6 → parseFieldDescriptor (TC8 k).2.2.1 = some (tC8 k) := by decide +kernel
def TC9 : u_T := fun k => match k with
  | 0 => ("java/lang/Throwable", "backtrace", "Ljava/lang/Object;", false)
  | 1 => ("java/lang/Throwable", "cause", "Ljava/lang/Throwable;", false)
  | 2 => ("java/lang/Throwable", "depth", "I", false)
  | 3 => ("java/lang/Throwable", "detailMessage", "Ljava/lang/String;", false)
  | 4 => ("java/lang/Throwable", "stackTrace", "[Ljava/lang/StackTraceElement;", false)
  | _ => ("java/lang/Throwable", "suppressedExceptions", "Ljava/util/List;", false)
def tC9 : Nat → FieldType := fun k => match k with
  | 0 => .object "java/lang/Object"
  | 1 => .object "java/lang/Throwable"
  | 2 => .int
  | 3 => .object "java/lang/String"
  | 4 => .array (.object "java/lang/StackTraceElement")
  | _ => .object "java/util/List"
theorem nmC9 : ∀ a, a < 6 → ∀ b, b < 6 → a ≠ b → (TC9 a).2.1 ≠ (TC9 b).2.1 := by decide +kernel
theorem okC9 : ∀ k, k < 6 → parseFieldDescriptor (TC9 k).2.2.1 = some (tC9 k) := by decide +kernel
def TC10 : u_T := fun k => match k with
  | 0 => ("java/lang/Throwable", "backtrace", "Ljava/lang/Object;", false)
  | 1 => ("java/lang/Throwable", "cause", "Ljava/lang/Throwable;", false)
  | 2 => ("java/lang/Throwable", "depth", "I", false)
  | 3 => ("java/lang/Throwable", "detailMessage", "Ljava/lang/String;", false)
  | 4 => ("java/lang/Throwable", "stackTrace", "[Ljava/lang/StackTraceElement;", false)
  | _ => ("java/lang/Throwable", "suppressedExceptions", "Ljava/util/List;", false)
def tC10 : Nat → FieldType := fun k => match k with
  | 0 => .object "java/lang/Object"
  | 1 => .object "java/lang/Throwable"
  | 2 => .int
  | 3 => .object "java/lang/String"
  | 4 => .array (.object "java/lang/StackTraceElement")
  | _ => .object "java/util/List"
theorem nmC10 : ∀ a, a < 6 → ∀ b, b < 6 → a ≠ b → (TC10 a).2.1 ≠ (TC10 b).2.1 := by decide +kernel
theorem okC10 : ∀ k, k < 6 → parseFieldDescriptor (TC10 k).2.2.1 = some (tC10 k) := by decide +kernel
def TC11 : u_T := fun k => match k with
  | 0 => ("java/lang/Throwable", "backtrace", "Ljava/lang/Object;", false)
  | 1 => ("java/lang/Throwable", "cause", "Ljava/lang/Throwable;", false)
  | 2 => ("java/lang/Throwable", "depth", "I", false)
  | 3 => ("java/lang/Throwable", "detailMessage", "Ljava/lang/String;", false)
  | 4 => ("java/lang/Throwable", "stackTrace", "[Ljava/lang/StackTraceElement;", false)
  | _ => ("java/lang/Throwable", "suppressedExceptions", "Ljava/util/List;", false)
def tC11 : Nat → FieldType := fun k => match k with
  | 0 => .object "java/lang/Object"
  | 1 => .object "java/lang/Throwable"
  | 2 => .int
  | 3 => .object "java/lang/String"
  | 4 => .array (.object "java/lang/StackTraceElement")
  | _ => .object "java/util/List"
theorem nmC11 : ∀ a, a < 6 → ∀ b, b < 6 → a ≠ b → (TC11 a).2.1 ≠ (TC11 b).2.1 := by decide +kernel
theorem okC11 : ∀ k, k < 6 → parseFieldDescriptor (TC11 k).2.2.1 = some (tC11 k) := by decide +kernel
def vwCl : List vw_C := [("CapKernel", TC0, 7), ("CapKernel$Capability", TC1, 7), ("CapKernel$Client", TC2, 19), ("CapKernel$Driver", TC3, 3), ("CapKernel$FileServer", TC4, 5), ("CapKernel$Thing", TC5, 11), ("CapKernelModel", TC6, 42), ("java/util/ArrayList", TC7, 3), ("java/lang/IllegalArgumentException", TC8, 6), ("java/util/NoSuchElementException", TC9, 6), ("java/lang/UnsupportedOperationException", TC10, 6), ("java/lang/IllegalStateException", TC11, 6)]
/-- the kinds of arrays -/
def xaty : List FieldType := [.int, .boolean, .object "CapKernel$Capability", .object "CapKernel$Client", .object "java/lang/Object", .long]
theorem xaty0 : xaty[0]? = some .int := rfl
theorem xaty1 : xaty[1]? = some .boolean := rfl
/-- cells that lie below the first address: ArrayList's empty array, Throwable's two statics, the Class of Object[] -/
abbrev xzs : Type := Nat × Option Nat × Option Nat × Nat
/-- where Throwable's two statics lie -/
def xls (U : State) : Prop := (Cond.laysStatic Bundle.tN "UNASSIGNED_STACK" Bundle.steD).before #[] U = true ∧ (Cond.laysStatic Bundle.tN "SUPPRESSED_SENTINEL" Bundle.listD).before #[] U = true
theorem xls_one {C n d : String} {v : Value} {b : Nat} {u U : State} (hvm : u.vm.Alike U.vm) (hh : ∀ q : Nat, q < b → U.heap[q]? = u.heap[q]?) (hZ : va_Z C n d v (fun q => b ≤ q) u u.heap) (h : (Cond.laysStatic C n d).before #[] u = true) : (Cond.laysStatic C n d).before #[] U = true := by
  obtain ⟨cf, kf, fi, f, a, cell, g1, g2, g3, g4, g5, g6, g7, g8⟩ := hZ
  obtain ⟨k', hi', he⟩ := State.fieldFound?_setVm hvm g1
  have hi' : U.fieldFound? C n d = some (cf, k', fi, f) := hi'
  have hU : U.heap[a]? = some cell := by rw [hh a (Nat.not_le.mp g8)]; exact g5
  simp only [Cond.before, Cond.holds, Cond.value] at h ⊢
  rw [hvm.findClass, hi']
  rw [g1] at h
  cases hc : u.vm.findClass C with
  | none => rw [hc] at h; simp at h
  | some c =>
    rw [hc] at h
    have e1 : k'.statics = some a := by rw [he]; exact g4
    have e2 : k'.staticTypes = kf.staticTypes := by rw [he]
    simp only [g4, e1, e2, Option.bind_some, g5, hU, Option.map_some] at h ⊢
    exact h
def xz (z : xzs) (b : Nat) (U : State) : Prop := (va_Z "java/util/ArrayList" "DEFAULTCAPACITY_EMPTY_ELEMENTDATA" "[Ljava/lang/Object;" (.ref z.1) (fun q => b ≤ q) U U.heap ∧ va_T (.object "java/lang/Object") z.1 0 (fun _ => .null) (fun q => b ≤ q) U U.heap) ∧
  (va_Z "java/lang/Throwable" "UNASSIGNED_STACK" "[Ljava/lang/StackTraceElement;" (va_rf z.2.1) (fun q => b ≤ q) U U.heap ∧ va_Z "java/lang/Throwable" "SUPPRESSED_SENTINEL" "Ljava/util/List;" (va_rf z.2.2.1) (fun q => b ≤ q) U U.heap) ∧ va_Mi "[Ljava/lang/Object;" z.2.2.2 U ∧ va_Dc U ∧ xls U
theorem xz_moved {z : xzs} {b : Nat} {u U : State} (hvm : u.vm.Alike U.vm) (hh : ∀ q : Nat, q < b → U.heap[q]? = u.heap[q]?) (h : xz z b u) : xz z b U := by
  obtain ⟨⟨h1, h2⟩, ⟨h3, h4⟩, h5, h6, h7⟩ := h
  have hq : ∀ a : Nat, a < u.heap.size → ¬ (fun q => b ≤ q) a → U.heap[a]? = u.heap[a]? := fun a _ hn => hh a (Nat.not_le.mp hn)
  exact ⟨⟨(h1.moved hvm).kept hq, (h2.moved hvm).kept hq⟩, ⟨(h3.moved hvm).kept hq, (h4.moved hvm).kept hq⟩, h5.moved hvm, h6.moved hvm, xls_one hvm hh h3 h7.1, xls_one hvm hh h4 h7.2⟩
/-- every word that stays -/
def xT : List Cond := lw_tbl.filter goodWord
theorem xT_good {w : Cond} (h : w ∈ xT) : (w.onTables && w.keeps) = true ∨ ∃ ty, w = .arrayClass ty := good_of_word (List.mem_filter.mp h).2
theorem inC0 : ∀ w ∈ u_ws "CapKernel" TC0 7, w ∈ xT := by decide +kernel
theorem inC1 : ∀ w ∈ u_ws "CapKernel$Capability" TC1 7, w ∈ xT := by decide +kernel
theorem inC2 : ∀ w ∈ u_ws "CapKernel$Client" TC2 19, w ∈ xT := by decide +kernel
theorem inC3 : ∀ w ∈ u_ws "CapKernel$Driver" TC3 3, w ∈ xT := by decide +kernel
theorem inC4 : ∀ w ∈ u_ws "CapKernel$FileServer" TC4 5, w ∈ xT := by decide +kernel
theorem inC5 : ∀ w ∈ u_ws "CapKernel$Thing" TC5 11, w ∈ xT := by decide +kernel
theorem inC6 : ∀ w ∈ u_ws "CapKernelModel" TC6 42, w ∈ xT := by decide +kernel
theorem inC7 : ∀ w ∈ u_ws "java/util/ArrayList" TC7 3, w ∈ xT := by decide +kernel
theorem inC8 : ∀ w ∈ u_ws "java/lang/IllegalArgumentException" TC8 6, w ∈ xT := by decide +kernel
theorem inC9 : ∀ w ∈ u_ws "java/util/NoSuchElementException" TC9 6, w ∈ xT := by decide +kernel
theorem inC10 : ∀ w ∈ u_ws "java/lang/UnsupportedOperationException" TC10 6, w ∈ xT := by decide +kernel
theorem inC11 : ∀ w ∈ u_ws "java/lang/IllegalStateException" TC11 6, w ∈ xT := by decide +kernel
