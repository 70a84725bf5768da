theorem nat_w : nativeFrameWords "java/lang/System" "arraycopy" 5 + 11 ≤ 60 := by decide +kernel
section JT
variable {γ : Gam} {p : Program} {l : Launch} {e : Env} {R : Room} {s : State} {m : MethodId} {args : Array Value} {below : List Frame} {meth : Method} {c : Code} {Qm : State → Prop} {M : Nat} {S0 : St} {pc : Nat} {lv : List (Option V_)} {st : List V_} {S : St}
set_option maxHeartbeats 2000000 in
theorem st_arraycopy (hx : p.tables.exec = Jvm.exec) (hb : c.code = mC M) (hts : ∀ w ∈ tG, w.before args s = true) (hown : s.vm.findClass (cnm.getD (mOwn M) "") = some m.cls) (hK : va_K (gD γ) cls10 (tyL γ) s) (hZ : Zs γ S0 s s.heap) (h0 : g0 γ ≤ s.heap.size) (hml : c.maxLocals = (mI M).2.2.1) (hRf : 1 ≤ R.frames ∧ 76 ≤ R.locals) {ix a0 a1 : Nat} {sp dp n : Int32} (hd : decode (mC M) pc = .ok (.invokestatic ix, 3)) (hix : ix < 1000) (hq : cres.lookup (1000 * mOwn M + ix) = some (5, 0))
    (k0 : sK S a0 = 28) (k1 : sK S a1 = 28) (p0 : 0 < sN S a0) (p1 : 0 < sN S a1) (hw : wds st ≤ 8) (n1 : ¬ sp < 0) (n2 : ¬ dp < 0) (n3 : ¬ n < 0) (n4 : sp.toNatClampNeg + n.toNatClampNeg ≤ sN S a0) (n5 : dp.toNatClampNeg + n.toNatClampNeg ≤ sN S a1) (hel : ∀ i, i < n.toNatClampNeg → okSt S 28 (sR S a0 (sp.toNatClampNeg + i)))
    (k : J γ p l e R s m args below meth c Qm M S0 (pc + 3) lv st (setRr S a1 (va_cpy (sR S a0) (sR S a1) sp.toNatClampNeg dp.toNatClampNeg n.toNatClampNeg))) : J γ p l e R s m args below meth c Qm M S0 pc lv (vI n :: vI dp :: vR (some a1) :: vI sp :: vR (some a0) :: st) S := by
  intro H locs ls hl hP hS q1 q2 q3 q4
  obtain ⟨h1, h2, h3⟩ := sres_at hq hix
  unfold schk at h1
  dsimp only at h1
  rw [h2, h3] at h1
  have z0 : sK S a0 ≠ 0 := by omega
  have z1 : sK S a1 ≠ 0 := by omega
  obtain ⟨i0, hi0⟩ := Wp_get hP z0 (rg hP z0 rfl p0)
  obtain ⟨i1, hi1⟩ := Wp_get hP z1 (rg hP z1 rfl p1)
  have hj0 := hi0
  have hj1 := hi1
  rw [cc_r (by omega), k0] at hj0
  rw [cc_r (by omega), k1] at hj1
  have e7 : (tyL γ)[7]? = some (gy γ 28, .object "java/lang/Object") := rfl
  refine va_copyM hx hb (by rw [hml]; exact hl.1.symm) hown (hts _ (inT_G h1)) (hts _ (inT_G (more_in _ (by simp)))) (hts _ (inT_G (more_in _ (by simp)))) (hts _ (inT_G (more_in _ (by simp)))) hK (wl_P hP H.size) (wl_D H.size) hS i0 i1 7 7 hj0 hj1 e7 e7 n1 n2 n3 n4 n5 (fun i hi y hy => ?_) hRf.1 ?_ hd (fun H1 locs1 hP1 hD1 hS1 => ?_)
  · have := hel i hi
    rw [hy] at this
    unfold okSt at this
    exact Wp_any hK hZ hP (by omega)
  · rw [wds_vv]
    have := nat_w
    omega
  · refine k H1 locs1 ls hl (Wp_write hP hS hS1 h0 hi1 hP1 rfl rfl ?_ (fun b hb => cc_setRr hb)) hS1 q1 q2 q3 q4
    rw [cc_r (S := setRr S a1 _) (show 24 ≤ sK S a1 by omega)]
    have : sR (setRr S a1 (va_cpy (sR S a0) (sR S a1) sp.toNatClampNeg dp.toNatClampNeg n.toNatClampNeg)) a1 = va_cpy (sR S a0) (sR S a1) sp.toNatClampNeg dp.toNatClampNeg n.toNatClampNeg := by funext j; simp [sR, setRr]
    rw [this]
    show Sum.inl (gy γ (sK S a1), sN S a1, _) = _
    rw [k1]
theorem st_getClass (hx : p.tables.exec = Jvm.exec) (hb : c.code = mC M) (hts : ∀ w ∈ tG, w.before args s = true) (hown : s.vm.findClass (cnm.getD (mOwn M) "") = some m.cls) (hK : va_K (gD γ) cls10 (tyL γ) s) (hZ : Zs γ S0 s s.heap) (hml : c.maxLocals = (mI M).2.2.1) (hRf : 1 ≤ R.frames ∧ 76 ≤ R.locals) {ix a : Nat} (hd : decode (mC M) pc = .ok (.invokevirtual ix, 3)) (hix : ix < 1000) (hq : cres.lookup (1000 * mOwn M + ix) = some (6, 0)) (hk : sK S a = 28) (hw : wds st ≤ 8)
    (k : J γ p l e R s m args below meth c Qm M S0 (pc + 3) lv (vR (some (sm S)) :: st) S) : J γ p l e R s m args below meth c Qm M S0 pc lv (vR (some a) :: st) S := by
  intro H locs ls hl hP hS q1 q2 q3 q4
  obtain ⟨h1, h2, h3⟩ := sres_at hq hix
  unfold schk at h1
  dsimp only at h1
  rw [h2, h3] at h1
  have k0 := k H locs ls hl hP hS q1 q2 q3 q4
  rw [q2] at k0
  have hat := (hP a (by omega)).2.2
  rw [cc_r (by omega), hk] at hat
  refine va_getC hx hb (by rw [hml]; exact hl.1.symm) hown (hts _ (inT_G h1)) (va_Nw.use rfl (hZ.2.2.2.2.2.2.2.2.1 ⟨"java/lang/Object", "getClass", "()Ljava/lang/Class;"⟩ (by decide))) (hts _ (inT_G (more_in _ (by simp)))) (hts _ (inT_G (more_in _ (by simp)))) (hts _ (inT_G (more_in _ (by simp)))) hZ.2.1 ⟨_, hat, rfl, name_obj hK⟩ hRf.1 ?_ hd k0
  rw [wds_vv]
  omega
end JT
