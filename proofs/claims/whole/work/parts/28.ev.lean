/-- EV IS SOUND: a method's plain meaning is a contract of its bytecode. -/
theorem name_of_init {s : State} {y : MethodName} {m : MethodId} {meth : Method} (hn : s.methodNamed? y = some m) (hm : s.vm.method? m = some meth) (h : y.name = "<init>") : meth.name = "<init>" := (name_of_methodNamed hn hm).1.trans h
set_option maxHeartbeats 1000000 in
theorem Ev_ok {l : Launch} {γ : Gam} (hst : l.stackTraces = false) : ∀ (D M : Nat) (as : List V_) (S : St) (Q : Rs → St → Prop), M < 136 → Ev D M as S Q → Tri l γ D M as S Q := by
  intro D
  induction D with
  | zero => intro M as S Q _ h; exact False.elim h
  | succ d ih =>
    intro M as S Q hM h
    obtain ⟨hA, hrun⟩ := h
    obtain ⟨f1, f2, f3, f4⟩ := mf_all M hM
    refine MetFree.of_bodySF (code := (mI M).2.1) (maxLocals := (mI M).2.2.1) (ret := (mI M).2.2.2.1) f1 ?_ ?_
    · intro args s m h hn
      obtain ⟨meth, c, h1, h2, h3, h4, h5, h6, -, -⟩ := cwd_spec (atoms_spec (ws := wsM M) h _ List.mem_cons_self) hn
      exact ⟨meth, c, h1, h2, h3, h4, h5, h6⟩
    · intro p e s m args below meth c s₁ B hml hP _
      obtain ⟨rfl, hWp, hK, hZ, h0, r1, r2⟩ := hP
      have X₀ := Stand.of_body B
      have hws := atoms_spec (ws := wsM M) B.pre
      have hh0 : s₁.heap = s.heap := by rw [B.state]; rfl
      have htab : c.exceptionTable.toList.map (fun h => (h.startPc, h.endPc, h.handlerPc, h.catchType)) = (mI M).2.2.2.2 := by
        obtain ⟨meth', c', h1, h2, -, -, -, -, h7, -⟩ := cwd_spec (hws _ List.mem_cons_self) B.named
        cases Option.some.inj (h1.symm.trans B.method)
        cases Option.some.inj (h2.symm.trans X₀.code)
        exact h7
      have hO : Ok γ p l (rmM (d + 1) S) s m (as.map vv).toArray meth c M S d :=
        ⟨B.exec, B.bytes, fun w hw => hws w (List.mem_cons_of_mem _ hw), by rw [f2]; exact findClass_of_methodNamed B.named, hK, hZ, h0, hml, B.returns, B.notSynchronized, fun hi => name_of_init B.named B.method (f3 hi), htab, hOk_of ⟨f1, f2, f3, f4⟩, rfl, hst⟩
      have hc := okA_cat hA
      have hsl : (lg_sl (as.map vv)).length ≤ (mI M).2.2.1 := by rw [(sl_1 as hc).1, List.length_map]; exact hA.1
      have hl := lv_entry (as.map vv) hsl
      have hJ := run_ok (e := e) (below := below) hO (fun M' as' S' Q' h1 h2 => ih M' as' S' Q' h1 h2) hrun s.heap [] _ (ent_lvh hA hl) hWp va_S.rf rfl rfl (Nat.le_refl _) ⟨Nat.le_refl _, r1, r2⟩
      rw [Nat.sub_self, Nat.sub_self] at hJ
      obtain ⟨t, a1, o, b1, b2, b3⟩ := hJ s₁ hh0 X₀
      refine ⟨t, o, ?_, b1, b2, b3⟩
      rw [lg_entry_eq]
      exact a1
