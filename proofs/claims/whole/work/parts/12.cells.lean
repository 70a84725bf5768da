theorem vP1 {D : va_G} {cl : List vw_C} {q : Nat × va_E} {H : Heap} (h : va_at D cl q H) : va_P D cl [q] H := by
  intro j x hj
  have hz : j < 1 := (List.getElem?_eq_some_iff.mp hj).1
  rw [show j = 0 by omega] at hj
  cases hj
  exact h
theorem cc_obj {γ : Gam} {S : St} {a c : Nat} (hk : sK S a = c + 1) (hc : c < 10) : ccell γ S a = .inr (c, fcell S c a) := by
  unfold ccell
  rw [hk, if_pos (by omega), Nat.add_sub_cancel]
theorem fcell_at {S : St} {c a f : Nat} (hf : f < nFd.getD c 0) : (fcell S c a)[f]? = some (if isRf c f then va_rf (sP S (40 * c + f) a) else .int (sI S (40 * c + f) a)) := by
  unfold fcell
  rw [List.getElem?_map, List.getElem?_range hf]
  rfl
theorem fcell_len (S : St) (c a : Nat) : (fcell S c a).length = nFd.getD c 0 := by
  unfold fcell
  rw [List.length_map, List.length_range]
theorem nF_le (c : Nat) : nFd.getD c 0 ≤ 32 := by
  by_cases h : c < 10
  · exact (show ∀ c, c < 10 → nFd.getD c 0 ≤ 32 by decide) c h
  · have : nFd[c]? = none := List.getElem?_eq_none (by show 10 ≤ c; omega)
    simp [List.getD, this]
theorem fcell_setI {S : St} {c a f : Nat} {x : Int32} (hf : f < nFd.getD c 0) (hr : isRf c f = false) : fcell (setI S (40 * c + f) a x) c a = (fcell S c a).set f (.int x) := by
  apply List.ext_getElem?
  intro g
  by_cases hg : g < nFd.getD c 0
  · rw [fcell_at hg]
    by_cases hgf : f = g
    · subst hgf
      rw [List.getElem?_set_self (by rw [fcell_len]; exact hf), hr]
      simp [sI, setI]
    · rw [List.getElem?_set_ne hgf, fcell_at hg]
      have : ¬ g = f := fun z => hgf z.symm
      simp [sI, sP, setI, this]
  · rw [List.getElem?_eq_none (by rw [fcell_len]; omega), List.getElem?_eq_none (by rw [List.length_set, fcell_len]; omega)]
theorem fcell_setP {S : St} {c a f : Nat} {x : Option Nat} (hf : f < nFd.getD c 0) (hr : isRf c f = true) : fcell (setP S (40 * c + f) a x) c a = (fcell S c a).set f (va_rf x) := by
  apply List.ext_getElem?
  intro g
  by_cases hg : g < nFd.getD c 0
  · rw [fcell_at hg]
    by_cases hgf : f = g
    · subst hgf
      rw [List.getElem?_set_self (by rw [fcell_len]; exact hf), hr]
      simp [sP, setP]
    · rw [List.getElem?_set_ne hgf, fcell_at hg]
      have : ¬ g = f := fun z => hgf z.symm
      simp [sI, sP, setP, this]
  · rw [List.getElem?_eq_none (by rw [fcell_len]; omega), List.getElem?_eq_none (by rw [List.length_set, fcell_len]; omega)]
theorem cc_setI {γ : Gam} {S : St} {F a b : Nat} {x : Int32} (h : b ≠ a) : ccell γ (setI S F a x) b = ccell γ S b := by
  have e : ∀ c, fcell (setI S F a x) c b = fcell S c b := fun c => by simp [fcell, sI, sP, setI, h]
  simp only [ccell, e]
  rfl
theorem cc_setP {γ : Gam} {S : St} {F a b : Nat} {x : Option Nat} (h : b ≠ a) : ccell γ (setP S F a x) b = ccell γ S b := by
  have e : ∀ c, fcell (setP S F a x) c b = fcell S c b := fun c => by simp [fcell, sI, sP, setP, h]
  simp only [ccell, e]
  rfl
section JF
variable {γ : Gam} {p : Program} {l : Launch} {e : Env} {R : Room} {s : State} {m : MethodId} {args : Array Value} {below : List Frame} {meth : Method} {c : Code} {Qm : State → Prop} {M : Nat} {S0 : St} {pc : Nat} {lv : List (Option V_)} {st : List V_} {S : St}
theorem sameF {T : u_T} {f : Nat} {ref : String} (hts : ∀ w ∈ tG, w.before args s = true) (href : ref = (T f).1 ∨ (ref = RJx4a65c ∧ (T f).1 = "java/util/AbstractList" ∧ (T f).2.1 = "modCount" ∧ (T f).2.2.1 = "I")) : ∀ x, s.fieldFound? (T f).1 (T f).2.1 (T f).2.2.1 = some x → s.fieldFound? ref (T f).2.1 (T f).2.2.1 = some x := by
  rcases href with rfl | ⟨rfl, e1, e2, e3⟩
  · exact fun x h => h
  · rw [e1, e2, e3]
    exact fun x h => u_same (hts _ same_mod) x h
set_option maxHeartbeats 1000000 in
theorem st_getfield (hx : p.tables.exec = Jvm.exec) (hb : c.code = mC M) (hts : ∀ w ∈ tG, w.before args s = true) (hown : s.vm.findClass (cnm.getD (mOwn M) "") = some m.cls) (hK : va_K (gD γ) cls10 (tyL γ) s) {ix cl f a : Nat} (hd : decode (mC M) pc = .ok (.getfield ix, 3)) (hix : ix < 1000) (hf : fres.lookup (1000 * mOwn M + ix) = some (cl, f)) (hk : sK S a = cl + 1)
    (k : J γ p l e R s m args below meth c Qm M S0 (pc + 3) lv ((if isRf cl f then vR (sP S (40 * cl + f) a) else vI (sI S (40 * cl + f) a)) :: st) S) : J γ p l e R s m args below meth c Qm M S0 pc lv (vR (some a) :: st) S := by
  intro H locs ls hl hP hS q1 q2 q3 q4
  obtain ⟨C, T, N, ref, hc, hfN, hlk, href⟩ := fres_at hf hix
  have hc10 : cl < 10 := (List.getElem?_eq_some_iff.mp hc).1
  obtain ⟨C', T', N', ty, hc', hN, hin, hty, hnm, hfl⟩ := cOk_all cl hc10
  cases hc.symm.trans hc'
  have hat := (hP a (by omega)).2.2
  rw [cc_obj hk hc10] at hat
  have k0 := k H locs ls hl hP hS q1 q2 q3 q4
  refine va_get hx hb hts hin hown hK (vP1 hat) 0 rfl hc f hfN (hts _ hlk) (sameF hts href) (fcell_at (by rw [← hN]; exact hfN)) hd ?_
  cases hr : isRf cl f
  · rw [hr] at k0
    exact k0
  · rw [hr] at k0
    exact k0
set_option maxHeartbeats 2000000 in
theorem st_putI (hx : p.tables.exec = Jvm.exec) (hb : c.code = mC M) (hts : ∀ w ∈ tG, w.before args s = true) (hown : s.vm.findClass (cnm.getD (mOwn M) "") = some m.cls) (hK : va_K (gD γ) cls10 (tyL γ) s) (h0 : g0 γ ≤ s.heap.size) (hni : mInit M = true → meth.name = "<init>") {ix cl f a : Nat} {x : Int32} (hd : decode (mC M) pc = .ok (.putfield ix, 3)) (hix : ix < 1000) (hf : fres.lookup (1000 * mOwn M + ix) = some (cl, f)) (hk : sK S a = cl + 1)
    (hfin : isLf cl f = false ∨ (mInit M = true ∧ mOwn M = cl)) (hr : isRf cl f = false) (hz : isZf cl f = true → x = 0 ∨ x = 1)
    (k : J γ p l e R s m args below meth c Qm M S0 (pc + 3) lv st (setI S (40 * cl + f) a x)) : J γ p l e R s m args below meth c Qm M S0 pc lv (vI x :: vR (some a) :: st) S := by
  intro H locs ls hl hP hS q1 q2 q3 q4
  obtain ⟨C, T, N, ref, hc, hfN, hlk, href⟩ := fres_at hf hix
  have hc10 : cl < 10 := (List.getElem?_eq_some_iff.mp hc).1
  obtain ⟨C', T', N', ty, hc', hN, hin, hty, hnm, hfl⟩ := cOk_all cl hc10
  cases hc.symm.trans hc'
  obtain ⟨f1, f2, f3, f4⟩ := hfl f hfN
  have hg : g0 γ ≤ a := by
    rcases (hP a (by omega)).2.1 with h | h
    · exact h
    · omega
  obtain ⟨q0, hq0⟩ := Wp_get hP (a := a) (by omega) hg
  have hcc := cc_obj (γ := γ) hk hc10
  have hq1 := hq0
  rw [hcc] at hq1
  have hn : narrow (ty f) (.int x) = .int x ∧ fits (ty f) (.int x) = true := by
    rcases f3 hr with ⟨z1, z2⟩ | ⟨z1, z2⟩
    · rw [z2]
      rcases hz z1 with rfl | rfl <;> decide
    · rw [z2]
      exact ⟨rfl, rfl⟩
  have kk : ∀ (H1 : Heap) (locs1 : List Loc), va_P (gD γ) cls10 ((wl γ S H.size).set q0 (a, .inr (cl, (fcell S cl a).set f (.int x)))) H1 → va_D (gA γ) ((wl γ S H.size).set q0 (a, .inr (cl, (fcell S cl a).set f (.int x)))) → va_S (gA γ) s.heap H1 locs1 → W p l e R s m args below meth c H1 locs1 (sk S - sk S0) (sn S - sn S0) Qm (F0 m (pc + 3) ls (st.map vv)) := by
    intro H1 locs1 hP1 hD1 hS1
    refine k H1 locs1 ls hl (Wp_write hP hS hS1 h0 hq0 hP1 rfl rfl ?_ (fun b hb => cc_setI hb)) hS1 q1 q2 q3 q4
    rw [cc_obj (S := setI S (40 * cl + f) a x) hk hc10, fcell_setI (by rw [← hN]; exact hfN) hr]
  cases hL : isLf cl f with
  | false => exact va_put hx hb hts hin ty hty hnm hown hK (wl_P hP _) (wl_D _) hS q0 hq1 hc f hfN (hts _ hlk) (sameF hts href) (by rw [← f1]; exact hL) (hty f hfN) hn.1 hn.2 (by rw [fcell_len, ← hN]; exact hfN) hd kk
  | true =>
    rcases hfin with hfin | ⟨hi, ho⟩
    · rw [hL] at hfin; cases hfin
    · exact va_putF hx hb hts hin ty hty hnm hown hK (wl_P hP _) (wl_D _) hS q0 hq1 hc f hfN (hts _ hlk) (sameF hts href) (by rw [← f1]; exact hL) (hni hi) (by rw [ho]; exact f4 hL) (hty f hfN) hn.1 hn.2 (by rw [fcell_len, ← hN]; exact hfN) hd kk
set_option maxHeartbeats 2000000 in
theorem st_putP (hx : p.tables.exec = Jvm.exec) (hb : c.code = mC M) (hts : ∀ w ∈ tG, w.before args s = true) (hown : s.vm.findClass (cnm.getD (mOwn M) "") = some m.cls) (hK : va_K (gD γ) cls10 (tyL γ) s) (h0 : g0 γ ≤ s.heap.size) (hni : mInit M = true → meth.name = "<init>") {ix cl f a : Nat} {x : Option Nat} (hd : decode (mC M) pc = .ok (.putfield ix, 3)) (hix : ix < 1000) (hf : fres.lookup (1000 * mOwn M + ix) = some (cl, f)) (hk : sK S a = cl + 1)
    (hfin : isLf cl f = false ∨ (mInit M = true ∧ mOwn M = cl)) (hr : isRf cl f = true)
    (k : J γ p l e R s m args below meth c Qm M S0 (pc + 3) lv st (setP S (40 * cl + f) a x)) : J γ p l e R s m args below meth c Qm M S0 pc lv (vR x :: vR (some a) :: st) S := by
  intro H locs ls hl hP hS q1 q2 q3 q4
  obtain ⟨C, T, N, ref, hc, hfN, hlk, href⟩ := fres_at hf hix
  have hc10 : cl < 10 := (List.getElem?_eq_some_iff.mp hc).1
  obtain ⟨C', T', N', ty, hc', hN, hin, hty, hnm, hfl⟩ := cOk_all cl hc10
  cases hc.symm.trans hc'
  obtain ⟨f1, f2, f3, f4⟩ := hfl f hfN
  have hg : g0 γ ≤ a := by
    rcases (hP a (by omega)).2.1 with h | h
    · exact h
    · omega
  obtain ⟨q0, hq0⟩ := Wp_get hP (a := a) (by omega) hg
  have hcc := cc_obj (γ := γ) hk hc10
  have hq1 := hq0
  rw [hcc] at hq1
  have hn : narrow (ty f) (va_rf x) = va_rf x ∧ fits (ty f) (va_rf x) = true := by
    rw [hr] at f2
    cases hty2 : ty f <;> rw [hty2] at f2 <;> first | (cases f2; done) | (cases x <;> exact ⟨rfl, rfl⟩)
  have kk : ∀ (H1 : Heap) (locs1 : List Loc), va_P (gD γ) cls10 ((wl γ S H.size).set q0 (a, .inr (cl, (fcell S cl a).set f (va_rf x)))) H1 → va_D (gA γ) ((wl γ S H.size).set q0 (a, .inr (cl, (fcell S cl a).set f (va_rf x)))) → va_S (gA γ) s.heap H1 locs1 → W p l e R s m args below meth c H1 locs1 (sk S - sk S0) (sn S - sn S0) Qm (F0 m (pc + 3) ls (st.map vv)) := by
    intro H1 locs1 hP1 hD1 hS1
    refine k H1 locs1 ls hl (Wp_write hP hS hS1 h0 hq0 hP1 rfl rfl ?_ (fun b hb => cc_setP hb)) hS1 q1 q2 q3 q4
    rw [cc_obj (S := setP S (40 * cl + f) a x) hk hc10, fcell_setP (by rw [← hN]; exact hfN) hr]
  cases hL : isLf cl f with
  | false => exact va_put hx hb hts hin ty hty hnm hown hK (wl_P hP _) (wl_D _) hS q0 hq1 hc f hfN (hts _ hlk) (sameF hts href) (by rw [← f1]; exact hL) (hty f hfN) hn.1 hn.2 (by rw [fcell_len, ← hN]; exact hfN) hd kk
  | true =>
    rcases hfin with hfin | ⟨hi, ho⟩
    · rw [hL] at hfin; cases hfin
    · exact va_putF hx hb hts hin ty hty hnm hown hK (wl_P hP _) (wl_D _) hS q0 hq1 hc f hfN (hts _ hlk) (sameF hts href) (by rw [← f1]; exact hL) (hni hi) (by rw [ho]; exact f4 hL) (hty f hfN) hn.1 hn.2 (by rw [fcell_len, ← hN]; exact hfN) hd kk
end JF
