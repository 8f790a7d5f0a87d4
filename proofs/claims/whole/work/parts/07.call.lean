/-! CALLS AND CONTRACTS -/
theorem lw_good : h_tbl.all goodWord = true := List.all_eq_true.mpr (fun w h => (List.mem_filter.mp h).2)
def h_ws (k : hMI) : List Cond := Cond.code (ky k) (kc k) (kml k) (krt k) :: h_tbl
def h_rm (k : hMI) (a b : Nat) : Room := { frames := kfr k, cells := a, slots := b, locals := klo k }
def h_Pc (X : hX) (As : List hV) (M : hM) : Array Value → State → Prop := va_Pc (As.map (h_val X)) (fun U => h_W X M U U.heap ∧ va_K (xD X) hCl (h_tys X) U ∧ h_ex U)
def h_Qc (X : hX) (res : Option hV × hM) : Array Value → State → Outcome → State → Prop := fun _ u oc t => oc = .returned (res.1.map (h_val X)) ∧ h_W X res.2 t t.heap ∧ va_F (xF X) u t
def h_Ct (X : hX) (k : hMI) (As : List hV) (M : hM) (res : Option hV × hM) : Prop := mK M ≤ mK res.2 ∧ mz M ≤ mz res.2 ∧ Met (xl X) (ky k) (h_ws k) (h_rm k (mK res.2 - mK M) (mz res.2 - mz M)) (h_Pc X As M) (h_Qc X res) (mK res.2 - mK M) (mz res.2 - mz M) (xF X)
/-- a call of k with As in memory M returns, with Q of answer and memory -/
def Cl (X : hX) (k : hMI) (As : List hV) (M : hM) (Q : Option hV → hM → Prop) : Prop := ∃ res, h_Ct X k As M res ∧ Q res.1 res.2
theorem h_blind (X : hX) (As : List hV) (M : hM) : FrameBlind (h_Pc X As M) := fun a U g mk h => ⟨h.1, h_W_moved (u := U) (U := U.calling g mk a) (Vm.Alike.refl U.vm) h.2.1, va_K.moved (u := U) (U := U.calling g mk a) (Vm.Alike.refl U.vm) h.2.2.1, h_ex_call h.2.2.2⟩
theorem h_good {k : hMI} (h : Cond.code (ky k) (kc k) (kml k) (krt k) ∈ h_tbl) : GoodIn h_tbl (h_ws k) := fun w hw => by
  have hm : w ∈ h_tbl := by
    rcases List.mem_cons.mp hw with rfl | hw
    · exact h
    · exact hw
  exact ⟨hm, good_of_word (List.all_eq_true.mp lw_good w hm)⟩
def h_nd (k k' : hMI) (n : Nat) : Prop := (ky k').cls ≠ "java/lang/invoke/MethodHandle" ∧ (ky k').cls ≠ "java/lang/invoke/VarHandle" ∧ (parseMethodDescriptor (ky k').desc).map (fun d => d.parameters.length) = some n
def h_mB (k k' : hMI) (n : Nat) : Prop := Cond.initialized (ky k').cls ∈ h_tbl ∧ Cond.code (ky k') (kc k') (kml k') (krt k') ∈ h_tbl ∧ h_nd k k' n ∧ kfr k' + 1 ≤ kfr k ∧ 19 + kml k' + klo k' ≤ klo k
def h_mV (k k' : hMI) (idx c n : Nat) : Prop := h_mB k k' n ∧ c < 7 ∧ Cond.methodLink (ky k).cls idx (ky k') ∈ h_tbl ∧ Cond.instanceMethod (ky k') ∈ h_tbl ∧ Cond.selects (hCN c) (ky k') (ky k') ∈ h_tbl
def h_mS (k k' : hMI) (idx n : Nat) : Prop := h_mB k k' n ∧ Cond.methodLink (ky k).cls idx (ky k') ∈ h_tbl ∧ Cond.static (ky k') ∈ h_tbl
def h_mI (k k' : hMI) (idx n : Nat) : Prop := h_mB k k' n ∧ Cond.methodLink (ky k).cls idx (ky k') ∈ h_tbl ∧ Cond.instanceMethod (ky k') ∈ h_tbl ∧ (ky k').name = "<init>" ∧ krt k' = none
def h_mN (k k' : hMI) (idx n : Nat) (host : String) : Prop := h_mB k k' n ∧ (∀ U, h_ex U → va_Nw (.methodLinkNest (ky k).cls idx (ky k') host) U) ∧ Cond.instanceMethod (ky k') ∈ h_tbl ∧ (ky k').name = "<init>" ∧ krt k' = none
section CALL
variable {X : hX} {k k' : hMI} {n0 z0 pc : Nat} {L : List (Option hV)} {st : List hV} {M : hM} {Q Q1 : Option hV → hM → Prop}
theorem h_cat (st : List hV) : ((st.map (h_val X)).map fun v => v.category).sum = st.length := by
  induction st with
  | nil => rfl
  | cons v st ih =>
    simp only [List.map_cons, List.sum_cons, List.length_cons, h_val_cat, ih]
    omega
/-- behind a call -/
theorem h_back {p : Program} {e : Env} {R : Room} {s : State} {m : MethodId} {args : Array Value} {below : List Frame} {meth : Method} {c : Code} {H : Heap} {locs : List Loc} {cells slots mc ms : Nat} {ls : Array Slot} {st0 rest : List Value} {a : Array Value} {res : Option hV × hM} {Qf : State → Prop}
    (hr : va_Run p (xl X) e R s m args below meth c H locs cells slots mc ms (F0 m pc ls st0) rest (h_Qc X res a) (xF X)) (hS : va_S (xF X) s.heap H locs)
    (kk : ∀ (H1 : Heap) (locs1 : List Loc), h_W X res.2 s H1 → va_S (xF X) s.heap H1 locs1 → W p (xl X) e R s m args below meth c H1 locs1 (cells + mc) (slots + ms) Qf (F0 m (pc + 3) ls ((res.1.map (h_val X)).toList ++ rest))) : W p (xl X) e R s m args below meth c H locs cells slots Qf (F0 m pc ls st0) := by
  intro T hT XX
  obtain ⟨v, st₀, t, T', Lc, h0, X', hL, e1, e2, ⟨hv, hw, hz, hk⟩, stp⟩ := hr T hT XX
  have hv' : v = res.1.map (h_val X) := by injection hv
  subst hv'
  rw [h0] at hz hk
  have hal : s.vm.Alike t.vm := by rw [← e2]; exact X'.warmed.alike
  obtain ⟨t2, a1, b1⟩ := kk T'.heap (locs ++ Lc) (by rw [e1]; exact h_W_moved hal.symm hw)
    ⟨Nat.le_trans hS.1 (by rw [e1]; exact hz), fun q h1 h2 => by rw [e1, hk q (Nat.lt_of_lt_of_le h1 hS.1) h2]; exact hS.2.1 q h1 h2, fun q hq => by
      rcases List.mem_append.mp hq with h | h
      · exact hS.2.2 q h
      · exact hL q h⟩ T' rfl X'
  exact ⟨t2, stp t2 a1, b1⟩
/-- the machine's run of a call: what each kind of call gives -/
def h_Rn (X : hX) (k : hMI) (pc : Nat) (stk : List hV) (st : List hV) (M : hM) (res : Option hV × hM) : Prop :=
  mK M ≤ mK res.2 ∧ mz M ≤ mz res.2 ∧ ∀ (R : Room) (p : Program) (e : Env) (s : State) (m : MethodId) (args : Array Value) (below : List Frame) (meth : Method) (c : Code) (H : Heap) (locs : List Loc) (ls : Array Slot) (cells slots : Nat),
    h_Cx X k R p s m args meth c → cells + (mK res.2 - mK M) ≤ R.cells → slots + (mz res.2 - mz M) ≤ R.slots → h_W X M s H → ls.size = kml k →
    ∃ a, va_Run p (xl X) e R s m args below meth c H locs cells slots (mK res.2 - mK M) (mz res.2 - mz M) (F0 m pc ls (stk.map (h_val X))) (st.map (h_val X)) (h_Qc X res a) (xF X)
theorem wp_run {stk : List hV} {res : Option hV × hM} (hr : h_Rn X k pc stk st M res) (kk : Wp X k n0 z0 (pc + 3) L (res.1.toList ++ st) res.2 Q) : Wp X k n0 z0 pc L stk M Q := by
  obtain ⟨g1, g2, g3⟩ := hr
  refine wp_go ?_ ?_ ?_ kk
  · exact g1
  · exact g2
  intro R p e s m args below meth c Qf H locs ls cells slots C hcs hss ec es hW hL hS w
  obtain ⟨a, hrun⟩ := g3 R p e s m args below meth c H locs ls cells slots C (by omega) (by omega) hW hL.1
  refine h_back hrun hS (fun H1 locs1 hW1 hS1 => ?_)
  have h := w H1 locs1 ls (cells + (mK res.2 - mK M)) (slots + (mz res.2 - mz M)) (by omega) (by omega) hW1 hL hS1
  have e1 : (res.1.map (h_val X)).toList ++ st.map (h_val X) = (res.1.toList ++ st).map (h_val X) := by
    cases res.1 <;> simp
  rw [e1]
  exact h
theorem h_pre {s : State} {R : Room} {p : Program} {m : MethodId} {args : Array Value} {meth : Method} {c : Code} {H : Heap} {As : List hV} (C : h_Cx X k R p s m args meth c) (hW : h_W X M s H) : ∀ U : State, U.heap = H → s.WarmedH U.vm → h_Pc X As M (As.map (h_val X)).toArray U :=
  fun U hU hw => ⟨rfl, by rw [hU]; exact h_W_moved hw.alike hW, va_K.moved hw.alike C.2.2.2.2.2.2.2.2.1, h_ex_warm hw C.2.2.2.2.2.2.2.2.2.2.2.2.2⟩
theorem h_rv {As : List hV} : (As.reverse.map (h_val X)) = (As.map (h_val X)).reverse := by rw [List.map_reverse]
theorem h_cB {s : State} {R : Room} {p : Program} {m : MethodId} {args : Array Value} {meth : Method} {c : Code} {n a b idx : Nat} (C : h_Cx X k R p s m args meth c) (hB : h_mB k k' n) (hl : Cond.methodLink (ky k).cls idx (ky k') ∈ h_tbl) : CallB R s args (ky k).cls idx (ky k') (kc k') (kml k') (krt k') (h_ws k') (h_rm k' a b) a b n := by
  obtain ⟨h1, h2, h3, h4, h5⟩ := hB
  have hfr := C.2.2.2.2.2.2.2.2.2.2.1
  have hlo := C.2.2.2.2.2.2.2.2.2.2.2.1
  exact callB_of n C.2.2.2.2.2.2.2.1 (h_good h2) rfl rfl rfl (C.2.2.2.2.2.2.2.1 _ h1) (C.2.2.2.2.2.2.2.1 _ hl) h3 ⟨by show kfr k' + 1 ≤ _; omega, by show 8 + (kml k' + 11) + klo k' ≤ _; omega⟩
theorem h_runV {As : List hV} {a idx c n : Nat} {res : Option hV × hM} (hat : h_at k pc = some (.invokevirtual idx, 3)) (hm : h_mV k k' idx c n) (hn : As.length = n) (hk : mk M a = some (.inl c)) (hst : st.length ≤ 8) (hc : h_Ct X k' (.inr (some a) :: As) M res) : h_Rn X k pc (As.reverse ++ .inr (some a) :: st) st M res := by
  obtain ⟨g1, g2, g3⟩ := hc
  refine ⟨g1, g2, ?_⟩
  intro R p e s m args below meth cd H locs ls cells slots C hcs hss hW hls
  have hts := C.2.2.2.2.2.2.2.1
  have ha := h_W_ne hW hk (fun n h => by cases h)
  have hP := h_P1 (hW.2.2.2.1 a _ ha hk)
  have hrec := va_recv C.2.2.2.2.2.2.2.2.1 hP (hCl_at hm.2.1) (q0 := 0) rfl
  have hv : h_val X (.inr (some a)) = .ref (xo X + a) := by show Value.ref (h_ad X a) = _; rw [h_ad_p ha]
  refine ⟨_, va_runV (As := As.map (h_val X)) (rest := st.map (h_val X)) (b := xo X + a) (C := hCN c) ⟨C.1, C.2.1, C.2.2.2.1, C.2.2.2.2.2.2.1, hts⟩ g3 ⟨h_cB C hm.1 hm.2.2.1, hts _ hm.2.2.2.1, hts _ hm.2.2.2.2⟩ ⟨h_blind X _ M, hrec, ?_⟩ rfl (by rw [List.length_map]; exact hn) hls ?_ ?_ (h_dec C.2.2.2.2.2.2.2.2.2.2.2.2.1 hat) ⟨hcs, hss⟩⟩
  · intro U hU hw
    have h := h_pre (As := .inr (some a) :: As) C hW U hU hw
    rw [List.map_cons, hv] at h
    exact h
  · show (As.reverse ++ .inr (some a) :: st).map (h_val X) = _
    rw [List.map_append, List.map_cons, hv, h_rv]
  · refine lv_room ?_
    rw [h_cat]; exact hst
theorem h_runS {As : List hV} {idx n : Nat} {res : Option hV × hM} (hat : h_at k pc = some (.invokestatic idx, 3)) (hm : h_mS k k' idx n) (hn : As.length = n) (hst : st.length ≤ 8) (hc : h_Ct X k' As M res) : h_Rn X k pc (As.reverse ++ st) st M res := by
  obtain ⟨g1, g2, g3⟩ := hc
  refine ⟨g1, g2, ?_⟩
  intro R p e s m args below meth cd H locs ls cells slots C hcs hss hW hls
  have hts := C.2.2.2.2.2.2.2.1
  refine ⟨_, va_runS (As := As.map (h_val X)) (rest := st.map (h_val X)) ⟨C.1, C.2.1, C.2.2.2.1, C.2.2.2.2.2.2.1, hts⟩ g3 ⟨h_cB C hm.1 hm.2.1, hts _ hm.2.2⟩ ⟨h_blind X _ M, h_pre C hW⟩ rfl (by rw [List.length_map]; exact hn) hls ?_ ?_ (h_dec C.2.2.2.2.2.2.2.2.2.2.2.2.1 hat) ⟨hcs, hss⟩⟩
  · show (As.reverse ++ st).map (h_val X) = _
    rw [List.map_append, h_rv]
  · refine lv_room ?_
    rw [h_cat]; exact hst
theorem h_runI {As : List hV} {a c idx n : Nat} {res : Option hV × hM} (hat : h_at k pc = some (.invokespecial idx, 3)) (hm : h_mI k k' idx n) (hn : As.length = n) (hk : mk M a = some (.inl c)) (hst : st.length ≤ 8) (hc : h_Ct X k' (.inr (some a) :: As) M res) : h_Rn X k pc (As.reverse ++ .inr (some a) :: st) st M res := by
  obtain ⟨g1, g2, g3⟩ := hc
  refine ⟨g1, g2, ?_⟩
  intro R p e s m args below meth cd H locs ls cells slots C hcs hss hW hls
  have hts := C.2.2.2.2.2.2.2.1
  have ha := h_W_ne hW hk (fun n h => by cases h)
  have hv : h_val X (.inr (some a)) = .ref (xo X + a) := by show Value.ref (h_ad X a) = _; rw [h_ad_p ha]
  have hB := h_cB (a := mK res.2 - mK M) (b := mz res.2 - mz M) C hm.1 hm.2.1
  rw [hm.2.2.2.2] at hB
  refine ⟨_, va_runI (As := As.map (h_val X)) (rest := st.map (h_val X)) (b := xo X + a) ⟨C.1, C.2.1, C.2.2.2.1, C.2.2.2.2.2.2.1, hts⟩ g3 ⟨hB, hm.2.2.2.1, hts _ hm.2.2.1⟩ ⟨h_blind X _ M, ?_⟩ rfl (by rw [List.length_map]; exact hn) hls ?_ ?_ (h_dec C.2.2.2.2.2.2.2.2.2.2.2.2.1 hat) ⟨hcs, hss⟩⟩
  · intro U hU hw
    have h := h_pre (As := .inr (some a) :: As) C hW U hU hw
    rw [List.map_cons, hv] at h
    exact h
  · show (As.reverse ++ .inr (some a) :: st).map (h_val X) = _
    rw [List.map_append, List.map_cons, hv, h_rv]
  · refine lv_room ?_
    rw [h_cat]; exact hst
theorem h_runN {As : List hV} {a c idx n : Nat} {host : String} {res : Option hV × hM} (hat : h_at k pc = some (.invokespecial idx, 3)) (hm : h_mN k k' idx n host) (hn : As.length = n) (hk : mk M a = some (.inl c)) (hst : st.length ≤ 8) (hc : h_Ct X k' (.inr (some a) :: As) M res) : h_Rn X k pc (As.reverse ++ .inr (some a) :: st) st M res := by
  obtain ⟨g1, g2, g3⟩ := hc
  refine ⟨g1, g2, ?_⟩
  intro R p e s m args below meth cd H locs ls cells slots C hcs hss hW hls
  have hts := C.2.2.2.2.2.2.2.1
  have ha := h_W_ne hW hk (fun n h => by cases h)
  have hv : h_val X (.inr (some a)) = .ref (xo X + a) := by show Value.ref (h_ad X a) = _; rw [h_ad_p ha]
  obtain ⟨h1, h2, h3, h4, h5⟩ := hm.1
  have hfr := C.2.2.2.2.2.2.2.2.2.2.1
  have hlo := C.2.2.2.2.2.2.2.2.2.2.2.1
  have hB : va_CN R s args (ky k).cls idx (ky k') host (kc k') (kml k') (krt k') (h_ws k') (h_rm k' (mK res.2 - mK M) (mz res.2 - mz M)) (mK res.2 - mK M) (mz res.2 - mz M) n :=
    va_cnB n hts (h_good h2) rfl rfl rfl (hm.2.1 s C.2.2.2.2.2.2.2.2.2.2.2.2.2) (hts _ h1) h3 ⟨by show kfr k' + 1 ≤ _; omega, by show 8 + (kml k' + 11) + klo k' ≤ _; omega⟩
  rw [hm.2.2.2.2] at hB
  refine ⟨_, va_runIN (As := As.map (h_val X)) (rest := st.map (h_val X)) (b := xo X + a) ⟨C.1, C.2.1, C.2.2.2.1, C.2.2.2.2.2.2.1, hts⟩ g3 ⟨hB, hm.2.2.2.1, hts _ hm.2.2.1⟩ ⟨h_blind X _ M, ?_⟩ rfl (by rw [List.length_map]; exact hn) hls ?_ ?_ (h_dec C.2.2.2.2.2.2.2.2.2.2.2.2.1 hat) ⟨hcs, hss⟩⟩
  · intro U hU hw
    have h := h_pre (As := .inr (some a) :: As) C hW U hU hw
    rw [List.map_cons, hv] at h
    exact h
  · show (As.reverse ++ .inr (some a) :: st).map (h_val X) = _
    rw [List.map_append, List.map_cons, hv, h_rv]
  · refine lv_room ?_
    rw [h_cat]; exact hst
theorem wp_obj {idx a : Nat} (hat : h_at k pc = some (.invokespecial idx, 3)) (hm : Cond.methodLink (ky k).cls idx Lib.objectInit ∈ h_tbl ∧ Cond.instanceMethod Lib.objectInit ∈ h_tbl ∧ Cond.code Lib.objectInit ⟨#[0xb1]⟩ 1 none ∈ h_tbl) (hfr : 1 ≤ kfr k) (hlo : st.length + 12 ≤ klo k) (kk : Wp X k n0 z0 (pc + 3) L st M Q) : Wp X k n0 z0 pc L (.inr (some a) :: st) M Q :=
  wp_st (fun R p e s m args below meth c Qf H locs ls cells slots C _ _ hW hL hS w => by
    have hts := C.2.2.2.2.2.2.2.1
    refine W.objInit C.1 C.2.1 C.2.2.2.2.2.2.1 (hts _ hm.1) (hts _ hm.2.1) (hts _ hm.2.2) rfl (by rw [C.2.2.2.1]; exact hL.1) rfl (h_dec C.2.2.2.2.2.2.2.2.2.2.2.2.1 hat) (Nat.le_trans hfr C.2.2.2.2.2.2.2.2.2.2.1) ?_ w
    have h1 : klo k ≤ R.locals := C.2.2.2.2.2.2.2.2.2.2.2.1
    have h2 : (F0 m pc ls (.ref (h_ad X a) :: st.map (h_val X))).monitorRoom = 0 := rfl
    show 2 * (F0 m pc ls (.ref (h_ad X a) :: st.map (h_val X))).monitorRoom + _ + 12 ≤ R.locals
    rw [h2, h_cat]
    omega) kk
theorem wp_ireturn {v : Int32} (hat : h_at k pc = some (.ireturn, 1)) (ty : FieldType) (hr : krt k = some ty) (hn : narrow ty (.int v) = .int v) (hq : Q (some (.inl v)) M) : Wp X k n0 z0 pc L [.inl v] M Q :=
  ⟨(some (.inl v), M), ⟨Nat.le_refl _, Nat.le_refl _, fun R p e s m args below meth c Qf H locs ls cells slots C _ _ ec es hW hL hS hf => hf pc ls H locs cells slots ec es ⟨h_dec C.2.2.2.2.2.2.2.2.2.2.2.2.1 hat, ty, hr, hn⟩ hW hS⟩, hq⟩
theorem wp_return (hat : h_at k pc = some (.return_, 1)) (hr : krt k = none) (hq : Q none M) : Wp X k n0 z0 pc L [] M Q :=
  ⟨(none, M), ⟨Nat.le_refl _, Nat.le_refl _, fun R p e s m args below meth c Qf H locs ls cells slots C _ _ ec es hW hL hS hf => hf pc ls H locs cells slots ec es ⟨h_dec C.2.2.2.2.2.2.2.2.2.2.2.2.1 hat, hr⟩ hW hS⟩, hq⟩
theorem Wp.mono {Q' : Option hV → hM → Prop} (h : Wp X k n0 z0 pc L st M Q) (hq : ∀ r M', Q r M' → Q' r M') : Wp X k n0 z0 pc L st M Q' := by
  obtain ⟨res, h1, h2⟩ := h
  exact ⟨res, h1, hq _ _ h2⟩
theorem Cl.mono {As : List hV} {Q' : Option hV → hM → Prop} (h : Cl X k As M Q) (hq : ∀ r M', Q r M' → Q' r M') : Cl X k As M Q' := by
  obtain ⟨res, h1, h2⟩ := h
  exact ⟨res, h1, hq _ _ h2⟩
/-- the locals with which a method begins -/
def h_en (k : hMI) (As : List hV) : List (Option hV) := As.map some ++ List.replicate (kml k - As.length) none
theorem lg_one (vs : List Value) (h : ∀ v ∈ vs, v.category = 1) : lg_sl vs = vs.map .val := by
  induction vs with
  | nil => rfl
  | cons v vs ih =>
    have h1 := h v List.mem_cons_self
    have h2 := ih (fun w hw => h w (List.mem_cons_of_mem _ hw))
    simp only [lg_sl, List.flatMap_cons] at h2 ⊢
    rw [h1, h2]
    rfl
theorem h_entry {As : List hV} {n : Nat} (hn : As.length ≤ n) : h_L X ((lg_sl (As.map (h_val X)) ++ List.replicate (n - (lg_sl (As.map (h_val X))).length) Slot.unset).toArray) n (As.map some ++ List.replicate (n - As.length) none) := by
  have hc : lg_sl (As.map (h_val X)) = (As.map (h_val X)).map .val := lg_one _ (fun v hv => by
    obtain ⟨w, -, rfl⟩ := List.mem_map.mp hv
    exact h_val_cat X w)
  have hlen : (lg_sl (As.map (h_val X))).length = As.length := by rw [hc]; simp
  obtain ⟨h1, h2, -⟩ := lv_entry (As.map (h_val X)) (n := n) (by rw [hlen]; exact hn)
  refine ⟨h1, h2, by simp; omega, fun i v hv => ?_⟩
  have hi : i < As.length := by
    rcases Nat.lt_or_ge i As.length with h | h
    · exact h
    · rw [List.getElem?_append_right (by simpa using h)] at hv
      rw [List.getElem?_replicate] at hv
      split at hv
      · cases hv
      · cases hv
  rw [List.getElem?_append_left (by simpa using hi), List.getElem?_map] at hv
  rw [List.getElem?_toArray, hc, List.getElem?_append_left (by simpa using hi), List.getElem?_map, List.getElem?_map]
  cases hA : As[i]? with
  | none => rw [hA] at hv; cases hv
  | some w =>
    rw [hA] at hv
    cases hv
    rfl
theorem h_ofW {l : Launch} {y : MethodName} {ws ws' : List Cond} {rm : Room} {Pc : Array Value → State → Prop} {Qc : Array Value → State → Outcome → State → Prop} {mc ms : Nat} {free : Addr → Prop} {cc : ByteArray} {maxL : Nat} {ret : Option FieldType}
    (hy : plainFor y = true) (hw : ws = Cond.code y cc maxL ret :: ws')
    (body : ∀ p e s m args below meth c s₁, BodyLoose p l y (headSpec ws rm) cc maxL ret e s m args below meth c s₁ → c.maxLocals = maxL → Pc args s →
      W p l e (headSpec ws rm).room s m args below meth c s.heap [] 0 0 (MQ below Qc args s mc ms free) (entryFrame m args maxL)) : Met l y ws rm Pc Qc mc ms free := by
  refine MetFree.of_bodySF (code := cc) (maxLocals := maxL) (ret := ret) hy ?_ ?_
  · intro args s m h hn
    obtain ⟨meth, c, h1, h2, h3, h4, h5, h6, -, -⟩ := Cond.code_spec hn (atoms_spec (ws := ws) h _ (by rw [hw]; exact List.mem_cons_self))
    exact ⟨meth, c, h1, h2, h3, h4, h5, h6⟩
  · intro p e s m args below meth c s₁ B hml hP _
    have hh0 : s₁.heap = s.heap := by rw [B.state]; rfl
    obtain ⟨t, a1, o, b1, b2, b3⟩ := body p e s m args below meth c s₁ B hml hP s₁ hh0 (Stand.of_body B)
    exact ⟨t, o, a1, b1, b2, ⟨b3.1, b3.2⟩⟩
/-- a walk of the body gives the contract -/
theorem h_ofWp {As : List hV} (hk : h_ok k) (hp : plainFor (ky k) = true) (hn : As.length ≤ kml k) (h : Wp X k (mK M) (mz M) 0 (h_en k As) [] M Q) : Cl X k As M Q := by
  obtain ⟨res, ⟨g1, g2, g3⟩, hq⟩ := h
  refine ⟨res, ⟨g1, g2, ?_⟩, hq⟩
  refine h_ofW (cc := kc k) (maxL := kml k) (ret := krt k) hp rfl ?_
  intro p e s m args below meth c s₁ B hml hv
  obtain ⟨rfl, hW, hK, hE⟩ := hv
  have hts0 := atoms_spec (ws := h_ws k) B.pre
  have hts : ∀ w ∈ h_tbl, w.before (As.map (h_val X)).toArray s = true := fun w hw => hts0 w (List.mem_cons_of_mem _ hw)
  have hown : s.vm.findClass (ky k).cls = some m.cls := findClass_of_methodNamed B.named
  have hsz : s.heap.size = xo X + mK M := hW.1
  have hK1 : 1 ≤ mK M := hW.2.1
  rw [lg_entry_eq]
  have hlocks := B.notSynchronized
  refine g3 (headSpec (h_ws k) (h_rm k (mK res.2 - mK M) (mz res.2 - mz M))).room p e s m _ below meth c _ s.heap [] _ 0 0 ⟨B.exec, B.bytes, B.returns, hml, B.notSynchronized, (fun h => (name_of_methodNamed B.named B.method).1.trans h), hown, hts, hK, by omega, Nat.le_refl _, Nat.le_refl _, hk, hE⟩ ?_ ?_ (by omega) (by omega) hW (h_entry hn) va_S.rf ?_
  · show mK res.2 ≤ mK M + (mK res.2 - mK M); omega
  · show mz res.2 ≤ mz M + (mz res.2 - mz M); omega
  · intro pc' ls' H' locs' cells' slots' ec es hfin hW' hS'
    have e1 : cells' = mK res.2 - mK M := by omega
    have e2 : slots' = mz res.2 - mz M := by omega
    subst e1; subst e2
    have hQ : ∀ t : State, t.heap = H' → s.WarmedH t.vm → h_Qc X res (As.map (h_val X)).toArray s (.returned (res.1.map (h_val X))) t := fun t ht hw => ⟨rfl, by rw [ht]; exact h_W_moved hw.alike hW', hS'.F ht⟩
    obtain ⟨rv, M2⟩ := res
    match rv, hfin, hQ with
    | none, hfin, hQ => exact W.vret B.exec B.bytes (B.returns.trans hfin.2) hQ hS'.2.2 hfin.1
    | some (.inl v), hfin, hQ =>
      obtain ⟨hd, ty, hr, hnr⟩ := hfin
      exact W.zret B.exec B.bytes (B.returns.trans hr) hnr hQ hS'.2.2 hd
end CALL
