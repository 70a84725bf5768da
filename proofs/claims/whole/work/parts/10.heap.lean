/-! the tables' words that last, and what the resolution tables say of them -/
noncomputable def tG : List Cond := lw_tbl.filter goodWord
theorem tG_of {w : Cond} (h : w ∈ lw_tbl) (g : goodWord w = true) : w ∈ tG := List.mem_filter.mpr ⟨h, g⟩
def fwd (o : String) (i : Nat) (T : u_T) (k : Nat) (w : Cond) : Bool := match w with
  | .fieldLink o' i' r n d => decide (o' = o) && decide (i' = i) && decide (n = (T k).2.1) && decide (d = (T k).2.2.1) && (decide (r = (T k).1) || decide (r = RJx4a65c ∧ (T k).1 = "java/util/AbstractList" ∧ n = "modCount" ∧ d = "I"))
  | _ => false
def fchk (q : Nat × Nat × Nat) : Bool := match cls10[q.2.1]? with
  | some (_, T, N) => decide (q.2.2 < N) && lw_tbl.any (fun w => goodWord w && fwd (cnm.getD (q.1 / 1000) "") (q.1 % 1000) T q.2.2 w)
  | none => false
set_option maxRecDepth 100000 in
theorem fres_ok : fres.all fchk = true := by decide +kernel
set_option maxRecDepth 100000 in
theorem same_mod : (Cond.sameField RJx4a65c "java/util/AbstractList" "modCount" "I") ∈ tG := by unfold tG; decide +kernel
