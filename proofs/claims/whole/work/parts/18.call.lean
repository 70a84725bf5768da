/-! CONTRACTS: what a method's run means for its caller. -/
/-- the word of a method's code -/
noncomputable def cwd (M : Nat) : Cond := if (mI M).2.2.2.2 = [] then .code (mI M).1 (mI M).2.1 (mI M).2.2.1 (mI M).2.2.2.1 else .codeWith (mI M).1 (mI M).2.1 (mI M).2.2.1 (mI M).2.2.2.1 (mI M).2.2.2.2
noncomputable def wsM (M : Nat) : List Cond := cwd M :: tG
/-- D frames, and all that the claim's room has left -/
def rmM (D : Nat) (S : St) : Room := { frames := D, cells := mxC - sk S, slots := mxS - sn S, locals := 38 * D }
/-- from S to S', the heaps H and H' -/
def ZE (γ : Gam) (S S' : St) (H H' : Heap) : Prop := Wp γ S' H' ∧ H.size ≤ H'.size ∧ (∀ q : Nat, q < H.size → ¬ gA γ q → H'[q]? = H[q]?) ∧ sk S ≤ sk S' ∧ sn S ≤ sn S' ∧ se S' = se S ∧ sm S' = sm S ∧ sk S' ≤ mxC ∧ sn S' ≤ mxS
def Zo (γ : Gam) (S : St) (Q : Rs → St → Prop) : Array Value → State → Outcome → State → Prop := fun _ st o t => ∃ (S' : St) (L : List Loc), ZE γ S S' st.heap t.heap ∧ (∀ q ∈ L, gA γ q.base) ∧
  ((∃ r : Option V_, o = .returned (r.map vv) ∧ Q (.inl r) S' ∧ FrameEnd st o t L (sk S' - sk S) (sn S' - sn S)) ∨
   (∃ (q : Addr) (E : String) (ce : Cell), o = .threw q ∧ Q (.inr E) S' ∧ t.heap[q]? = some ce ∧ ce.vm = .none ∧ st.vm.findClass E = some ce.cls ∧ st.WarmedH t.vm ∧ st.sameButNew ({ t with vm := st.vm } : State) L (sk S' - sk S) (sn S' - sn S)))
def PcZ (γ : Gam) (as : List V_) (S : St) : Array Value → State → Prop := fun v U => v = (as.map vv).toArray ∧ Wo γ S U
/-- method M, D frames at most, from S with the arguments as: it ends, and Q -/
def Tri (l : Launch) (γ : Gam) (D M : Nat) (as : List V_) (S : St) (Q : Rs → St → Prop) : Prop := MetFree l (mI M).1 (headSpec (wsM M) (rmM D S)) (PcZ γ as S) (fun _ _ _ _ _ => True) (Zo γ S Q)
theorem PcZ_blind {γ : Gam} {as : List V_} {S : St} : FrameBlind (PcZ γ as S) := by
  intro a U g mk h
  obtain ⟨h1, h2, h3, h4, h5⟩ := h
  exact ⟨h1, h2, va_K.moved (u := U) (U := U.calling g mk a) (Vm.Alike.refl U.vm) h3, Zs_warm (U := U.calling g mk a) (State.WarmedH.refl U) (fun _ _ _ => rfl) h4, h5⟩
def PreZ (R : Room) (γ : Gam) (as : List V_) (S : St) : Pt → Array Value → Prop := fun A a => A.cells + (mxC - sk S) ≤ R.cells ∧ A.slots + (mxS - sn S) ≤ R.slots ∧ PcZ γ as S a A.U
def PostZ (γ : Gam) (S : St) (Q : Rs → St → Prop) : Pt → Array Value → Option Value → Pt → Prop := fun A _ v B => ∃ (r : Option V_) (S' : St) (L : List Loc), v = r.map vv ∧ Q (.inl r) S' ∧ ZE γ S S' A.U.heap B.U.heap ∧ B.locs = A.locs ++ L ∧ (∀ q ∈ L, gA γ q.base) ∧ B.cells = A.cells + (sk S' - sk S) ∧ B.slots = A.slots + (sn S' - sn S)
def PostXZ (γ : Gam) (S : St) (Q : Rs → St → Prop) : Pt → Array Value → Addr → Pt → Prop := fun A _ q B => ∃ (E : String) (S' : St) (L : List Loc) (ce : Cell), Q (.inr E) S' ∧ ZE γ S S' A.U.heap B.U.heap ∧ B.U.heap[q]? = some ce ∧ ce.vm = .none ∧ A.U.vm.findClass E = some ce.cls ∧ B.locs = A.locs ++ L ∧ (∀ z ∈ L, gA γ z.base) ∧ B.cells = A.cells + (sk S' - sk S) ∧ B.slots = A.slots + (sn S' - sn S)
theorem cwd_spec {M : Nat} {a : Array Value} {U : State} {mk : MethodId} (h : (cwd M).before a U = true) (hn : U.methodNamed? (mI M).1 = some mk) :
    ∃ meth c, U.vm.method? mk = some meth ∧ meth.code = some c ∧ c.code = (mI M).2.1 ∧ c.maxLocals = (mI M).2.2.1 ∧ meth.sig.returnType = (mI M).2.2.2.1 ∧ meth.locks = false ∧
      c.exceptionTable.toList.map (fun h => (h.startPc, h.endPc, h.handlerPc, h.catchType)) = (mI M).2.2.2.2 ∧ parseMethodDescriptor (mI M).1.desc = some meth.sig := by
  unfold cwd at h
  split at h
  · rename_i h0
    obtain ⟨meth, c, h1, h2, h3, h4, h5, h6, h7, h8⟩ := Cond.code_spec hn h
    refine ⟨meth, c, h1, h2, h3, h4, h5, h6, ?_, h8⟩
    rw [h0, Array.isEmpty_iff.mp h7]
    rfl
  · obtain ⟨m9, meth, c, hn9, h1, h2, h3, h4, h7, h5, h6, h8⟩ := Cond.codeWith_spec h
    cases Option.some.inj (hn9.symm.trans hn)
    exact ⟨meth, c, h1, h2, h3, h4, h5, h6, h7, h8⟩
theorem tG_word {args a' : Array Value} {s U : State} (hts : ∀ w ∈ tG, w.before args s = true) (hW : s.WarmedH U.vm) {w : Cond} (hw : w ∈ tG) : w.before a' U = true :=
  word_at hW (good_of_word (List.mem_filter.mp hw).2) (hts w hw)
section BackZ
variable {l : Launch} {R : Room} {p : Program} {e : Env} {below : List Frame} {s : State} {sargs : Array Value} {γ : Gam}
set_option maxHeartbeats 1000000 in
theorem vz_back {D M : Nat} {as : List V_} {S : St} {Q : Rs → St → Prop} {len : Nat} (hM : Tri l γ D M as S Q) (hframes : D + 1 ≤ R.frames) (hlocals : 8 + ((mI M).2.2.1 + 11) + 38 * D ≤ R.locals) (hts : ∀ w ∈ tG, w.before sargs s = true) (hcode : cwd M ∈ tG) (hinit : Cond.initialized (mI M).1.cls ∈ tG) :
    vx_Back l R p e below s sargs (mI M).1 len 8 (PreZ R γ as S) (PostZ γ S Q) (PostXZ γ S Q) := by
  intro m meth c A g ig mk a X hg hsize hdg hW hn hp
  have h1 : (headSpec (wsM M) (rmM D S)).pre.before a A.U = true := atoms_intro fun w hw => by
    rcases List.mem_cons.mp hw with rfl | h
    · exact tG_word hts X.warmed hcode
    · exact tG_word hts X.warmed h
  have h2 : (cwd M).before a A.U = true := tG_word hts X.warmed hcode
  have h3 : (Cond.initialized (mI M).1.cls).before a A.U = true := tG_word hts X.warmed hinit
  have h4 : A.cells + (headSpec (wsM M) (rmM D S)).room.cells ≤ R.cells := hp.1
  have h5 : A.slots + (headSpec (wsM M) (rmM D S)).room.slots ≤ R.slots := hp.2.1
  have hPc : PcZ γ as S a (A.U.calling g mk a) := PcZ_blind _ _ _ _ hp.2.2
  obtain ⟨U, Ls, c0, s0⟩ := A
  dsimp only [Pt.U, Pt.locs, Pt.cells, Pt.slots] at h1 h2 h3 h4 h5 X hn hPc ⊢
  obtain ⟨methY, cY, hmY, hcY, -, hlY, -⟩ := cwd_spec h2 hn
  obtain ⟨kY, hkY, -⟩ := className_of_methodNamed hn
  have hinitY : kY.init = .initialized := Cond.initialized_spec (findClass_of_methodNamed hn) hkY h3
  have h : At U g.method c below := by rw [hg]; exact X.here
  have hlocals9 : 8 + ((mI M).2.2.1 + 11) + (headSpec (wsM M) (rmM D S)).room.locals ≤ R.locals := hlocals
  have hframes9 : (headSpec (wsM M) (rmM D S)).room.frames + 1 ≤ R.frames := hframes
  have happ : (headSpec (wsM M) (rmM D S)).appliesLoose (mI M).1 e.platform (U.calling g mk a) = true :=
    Spec.appliesLoose_calling (g := g) h hdg hn hkY hinitY
      (X.room_calling (g := g) (R' := (headSpec (wsM M) (rmM D S)).room) hsize hmY hcY hframes9 (by rw [hlY]; omega) h4 h5) h1
  obtain ⟨mid, hmid⟩ := h.above
  have hfr : (U.setTop g).frames = (.java g :: mid) ++ below := by rw [State.frames_setTop' g h.top, hmid]; rfl
  obtain ⟨o, s₂, hsteps, -, hend, hq⟩ := Steps.callFree hM p X.admits X.cas X.clock (acts := []) hfr happ hPc trivial
  have hq' : Zo γ S Q a (U.calling g mk a) o s₂ := hq
  rw [State.frames_setTop' g h.top] at hend
  obtain ⟨g₀, hg0⟩ := Option.isSome_iff_exists.mp h.top
  obtain ⟨r, hr⟩ := State.topJava?_eq_some.mp hg0
  have hr' : (({ U with heap := s₂.heap, slotsUsed := s₂.slotsUsed } : State).setVm s₂.vm).frames = .java g₀ :: r := hr
  obtain ⟨S', L, hZE, hL, hq'⟩ := hq'
  rcases hq' with ⟨rv, rfl, hqc, hfe⟩ | ⟨q, E, ce, rfl, hx, hce, hcv, hcl, hW₂, hsm⟩
  · obtain ⟨⟨v, hv⟩, hW₂, e2, q2, q3, q4, q5, q6⟩ := id hfe
    have e3 : s₂ = ({ (U.calling g mk a).setFrames s₂.frames with heap := s₂.heap, slotsUsed := s₂.slotsUsed } : State).setVm s₂.vm := by
      have : s₂ = ({ s₂ with vm := (U.calling g mk a).vm } : State).setVm s₂.vm := rfl
      rw [e2] at this
      exact this
    obtain ⟨c₂, i₂, len₂, hc₂, hd₂, hf₂⟩ := hend
    have hW' : U.WarmedH s₂.vm := hW₂
    have hcc : c₂ = c := by
      have h1 : s₂.code? g.method = U.code? g.method := by
        rw [State.code?_eq, State.code?_eq, hW'.alike.method?]
      exact Option.some.inj (hc₂.symm.trans (h1.trans h.code))
    subst hcc
    have hlen : len₂ = len := by rw [hdg] at hd₂; cases hd₂; rfl
    subst hlen
    have hs₂ : s₂ = (({ U with heap := s₂.heap, slotsUsed := s₂.slotsUsed } : State).setVm s₂.vm).setTop { g with pc := g.pc + len₂, stack := (rv.map vv).toList ++ g.stack } := by
      refine e3.trans ?_
      rw [hf₂, State.calling_eq h.top, State.setFrames_setFrames, State.setTop_of_frames _ hr', hr]
      rfl
    have hsame : U.sameButNew ({ U with heap := s₂.heap, slotsUsed := s₂.slotsUsed } : State) L (sk S' - sk S) (sn S' - sn S) := by
      refine ⟨?_, q2, q3, q4, q5, q6⟩
      obtain ⟨t, ht, -⟩ := State.frames_cons hr
      show ({ U with heap := s₂.heap, slotsUsed := s₂.slotsUsed } : State) = { U.setFrames U.frames with heap := s₂.heap, slotsUsed := s₂.slotsUsed }
      rw [State.setFrames_self ht]
    subst hg
    refine Or.inl ⟨rv.map vv, ⟨(({ U with heap := s₂.heap, slotsUsed := s₂.slotsUsed } : State).setVm s₂.vm), Ls ++ L, c0 + (sk S' - sk S), s0 + (sn S' - sn S)⟩,
      ⟨X.admits, X.cas, X.clock, X.frames, X.room, X.hears, X.method, X.code, (X.here.setHeapUsed s₂.heap s₂.slotsUsed).setVm hW'.alike, X.tail, State.WarmedH.trans X.warmed hW', X.limits, X.bytes, X.same.trans (hsame.setVm s.vm)⟩,
      ⟨rv, S', L, rfl, hqc, hZE, rfl, hL, rfl, rfl⟩, ?_⟩
    show Steps p.tables e below _ ((({ U with heap := s₂.heap, slotsUsed := s₂.slotsUsed } : State).setVm s₂.vm).setTop { g with pc := g.pc + len₂, stack := (rv.map vv).toList ++ g.stack })
    rw [← hs₂]
    exact hsteps
  · obtain ⟨e2, q2, q3, q4, q5, q6⟩ := id hsm
    have e3 : s₂ = ({ (U.calling g mk a).setFrames s₂.frames with heap := s₂.heap, slotsUsed := s₂.slotsUsed } : State).setVm s₂.vm := by
      have : s₂ = ({ s₂ with vm := (U.calling g mk a).vm } : State).setVm s₂.vm := rfl
      rw [e2] at this
      exact this
    have hf₂ : s₂.frames = .throwing q :: .java g :: U.frames.tail := hend
    have hW' : U.WarmedH s₂.vm := hW₂
    have hs₂ : s₂ = ((({ U with heap := s₂.heap, slotsUsed := s₂.slotsUsed } : State).setVm s₂.vm).setTop g).pushFrame (.throwing q) := by
      refine e3.trans ?_
      rw [hf₂, State.calling_eq h.top, State.setFrames_setFrames, State.pushFrame, State.frames_setTop _ hr', State.setTop_of_frames _ hr', State.setFrames_setFrames, hr]
      rfl
    have hsame : U.sameButNew ({ U with heap := s₂.heap, slotsUsed := s₂.slotsUsed } : State) L (sk S' - sk S) (sn S' - sn S) := by
      refine ⟨?_, q2, q3, q4, q5, q6⟩
      obtain ⟨t, ht, -⟩ := State.frames_cons hr
      show ({ U with heap := s₂.heap, slotsUsed := s₂.slotsUsed } : State) = { U.setFrames U.frames with heap := s₂.heap, slotsUsed := s₂.slotsUsed }
      rw [State.setFrames_self ht]
    subst hg
    refine Or.inr ⟨q, ⟨(({ U with heap := s₂.heap, slotsUsed := s₂.slotsUsed } : State).setVm s₂.vm), Ls ++ L, c0 + (sk S' - sk S), s0 + (sn S' - sn S)⟩,
      ⟨X.admits, X.cas, X.clock, X.frames, X.room, X.hears, X.method, X.code, (X.here.setHeapUsed s₂.heap s₂.slotsUsed).setVm hW'.alike, X.tail, State.WarmedH.trans X.warmed hW', X.limits, X.bytes, X.same.trans (hsame.setVm s.vm)⟩,
      ⟨E, S', L, ce, hx, hZE, hce, hcv, hcl, rfl, hL, rfl, rfl⟩, ?_⟩
    show Steps p.tables e below _ (((({ U with heap := s₂.heap, slotsUsed := s₂.slotsUsed } : State).setVm s₂.vm).setTop g).pushFrame (.throwing q))
    rw [← hs₂]
    exact hsteps
end BackZ
