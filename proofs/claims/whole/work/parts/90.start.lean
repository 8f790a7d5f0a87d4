/-! THE CLAIM OUT OF ONE WALK OF THE LAW'S BODY. Your part is whole_start (and what it stands on); all else here is the same for every law, but numbers. -/
def R_law : String := "HerdMastersLaw"
def lw_P (b : Addr) (xs : List Int32) (args : Array Value) (s : State) : Prop := args = #[.ref b] ∧ s.IntsAt b xs ∧ xs.length ≤ 5121 ∧ (Jvm.Cond.and given_1 narrow_1).before args s = true
def lw_Q (_ : Array Value) (s : State) (o : Outcome) (t : State) : Prop := o = .returned (some (.int 1)) ∧ Framed s o t [] 600000 7302250
def lw_Z (below : List Frame) (a : Array Value) (s : State) : State → Prop := fun t => ∃ o, t.status = .running ∧ Ended t below o ∧ lw_Q a s o t
/-- the law's own end, with 1 on the stack, nothing written that was there before, its room as the claim has it -/
theorem lw_ret {p : Program} {l : Launch} {e : Env} {s : State} {m : MethodId} {below : List Frame} {meth : Method} {c : Code} {b : Nat} (hx : p.tables.exec = Jvm.exec) (hb : c.code = code) (hr : meth.sig.returnType = ret) (hlocks : meth.locks = false) {pc : Nat} {H : Heap} {ls : Array Slot} (hdg : decode code pc = .ok (.ireturn, 1)) : W p l e room_1 s m #[Value.ref b] below meth c H [] 600000 7302250 (lw_Z below #[Value.ref b] s) (F0 m pc ls [.int 1]) := by
  intro T hT X
  obtain ⟨fs, hret, hrun, hended, hW, hframe⟩ := X.leave (v := some (.int 1)) (hlocks := hlocks) (fun h => by rw [hr] at h; cases h)
  have hmeth' : T.vm.method? m = some meth := X.method'
  refine ⟨T.setFrames fs, ?_, .returned (some (.int 1)), hrun, hended, rfl, ⟨_, rfl⟩, hW, hframe⟩
  jvm_step X.here [X.here.top, hx, hb, hdg, hmeth', hr, ret, narrow_b1]
  (try refine ⟨rfl, ?_⟩); (try refine ⟨rfl, ?_⟩)
  first | (intro acts; rw [hret _ acts rfl rfl rfl]) | rw [hret _ _ rfl rfl rfl]
  exact Steps.refl _
/-- what holds at the law's entry: the machine, the code, the tables' words (any of lw_tbl by 'hts w (by decide +kernel)'), the script of L ints xs at the cell b, what the Statement gives of the start (any of its parts by flat_of_before) -/
def lw_At (p : Program) (s : State) (m : MethodId) (meth : Method) (c : Code) (b L : Nat) (xs : Nat → Int32) : Prop :=
  p.tables.exec = Jvm.exec ∧ c.code = code ∧ meth.sig.returnType = ret ∧ c.maxLocals = 4 ∧ s.vm.findClass R_law = some m.cls ∧ (∀ w ∈ lw_tbl, w.before #[Value.ref b] s = true) ∧ va_X b L xs s s.heap ∧ b < s.heap.size ∧ meth.locks = false ∧ (Jvm.Cond.and given_1 narrow_1).before #[Value.ref b] s = true
/-- the memory with which the law begins: the script alone -/
def h_M0 (n : Nat) (xs : Nat → Int32) : hM := (1, 0, (fun p => if p = 0 then some (.inr (.inl (.int, n))) else none), (fun p j => if p = 0 then xs j else 0), fun _ _ => none)
/-- what the law's walk must give -/
def LawOk : Prop := ∀ (X : hX) (n : Nat) (xs : Nat → Int32), n ≤ 5121 → Wp X kL_law 1 0 0 (h_en kL_law [.inr (some 0)]) [] (h_M0 n xs) (fun r M' => r = some (.inl 1) ∧ mK M' ≤ 600001 ∧ mz M' ≤ 7302250)
theorem start_of (hlaw : LawOk) {p : Program} {e : Env} {s : State} {m : MethodId} {below : List Frame} {meth : Method} {c : Code} (l : Launch) {b L : Nat} {xs : Nat → Int32} (hL : L ≤ 5121) (C0 : lw_At p s m meth c b L xs) : W p l e room_1 s m #[Value.ref b] below meth c s.heap [] 0 0 (lw_Z below #[Value.ref b] s) (entryFrame m ([Value.ref b] : List Value).toArray 4) := by
  obtain ⟨hx, hb, hr, hml, hown, hts, hXs, hbl, hlocks, hgv⟩ := id C0
  have ex : ∀ c, c < 7 → ∃ (cC : ClassId) (iS : Nat → Nat), u_Kn s (hCN c) (hCT c) (hN c) cC iS := fun c hc =>
    u_known hts (fun w hw => h_tbl_in (hCl_in hc w hw)) (hts (.instantiable (hCN c) (hN c)) (by
      rcases (show c = 0 ∨ c = 1 ∨ c = 2 ∨ c = 3 ∨ c = 4 ∨ c = 5 ∨ c = 6 by omega) with rfl | rfl | rfl | rfl | rfl | rfl | rfl <;> decide +kernel))
  obtain ⟨D, hD⟩ : ∃ D : va_G, ∀ c, c < 7 → u_Kn s (hCN c) (hCT c) (hN c) (D.1 c) (D.2 c) := by
    refine ⟨(fun c => if h : c < 7 then (ex c h).choose else (ex 0 (by omega)).choose, fun c => if h : c < 7 then (ex c h).choose_spec.choose else (ex 0 (by omega)).choose_spec.choose), fun c hc => ?_⟩
    show u_Kn s (hCN c) (hCT c) (hN c) (if h : c < 7 then (ex c h).choose else (ex 0 (by omega)).choose) (if h : c < 7 then (ex c h).choose_spec.choose else (ex 0 (by omega)).choose_spec.choose)
    rw [dif_pos hc, dif_pos hc]
    exact (ex c hc).choose_spec.choose_spec
  have ea : ∀ ty ∈ hAT, ∃ cA, ArrOfT s cA ty ∧ va_RA s cA ty := by
    have hpr : ∀ ty, Cond.arrayClass ty ∈ lw_tbl → (ty = .int ∨ ty = .boolean) → ∃ cA, ArrOfT s cA ty ∧ va_RA s cA ty := fun ty hm hty => by
      obtain ⟨cA, kA, comp, hf, hk, hkind⟩ := Cond.arrayClass_spec (hts _ hm)
      exact ⟨cA, fun n z => ⟨fun k h => (by cases h), kA, hk, comp, hkind⟩, by rcases hty with rfl | rfl <;> exact hf⟩
    have hob : ∀ C, Cond.arrayOver (.object C) ∈ lw_tbl → ∃ cA, ArrOfT s cA (.object C) ∧ va_RA s cA (.object C) := fun C hm => by
      obtain ⟨comp, cA, k, h1, h2, h3, h4, h5⟩ := Cond.arrayOver_spec (hts _ hm)
      exact ⟨cA, fun n z => ⟨fun k h => (by cases h), k, h3, comp, h4⟩, k, comp, h3, h4, h1, h5⟩
    intro ty hty
    simp only [hAT, List.mem_cons, List.not_mem_nil, or_false] at hty
    rcases hty with rfl | rfl | rfl | rfl | rfl
    · exact hpr _ (h_tbl_in ac_int) (Or.inl rfl)
    · exact hpr _ (h_tbl_in ac_bool) (Or.inr rfl)
    · exact hob _ over_1.1
    · exact hob _ over_1.2.1
    · exact hob _ over_1.2.2
  obtain ⟨dA, hA⟩ : ∃ dA : FieldType → ClassId, ∀ ty ∈ hAT, ArrOfT s (dA ty) ty ∧ va_RA s (dA ty) ty := by
    refine ⟨fun ty => if h : ty ∈ hAT then (ea ty h).choose else (ea .int (by simp [hAT])).choose, fun ty hty => ?_⟩
    show ArrOfT s (if h : ty ∈ hAT then (ea ty h).choose else (ea .int (by simp [hAT])).choose) ty ∧ va_RA s (if h : ty ∈ hAT then (ea ty h).choose else (ea .int (by simp [hAT])).choose) ty
    rw [dif_pos hty]
    exact (ea ty hty).choose_spec
  generalize hXe : ((l, b, s.heap.size - 1, D, dA) : hX) = X
  have hxl : xl X = l := by rw [← hXe]
  have hxb : xb X = b := by rw [← hXe]
  have hxo : xo X = s.heap.size - 1 := by rw [← hXe]
  have hKn : va_K (xD X) hCl (h_tys X) s := by
    rw [← hXe]
    refine ⟨fun c q hq => ?_, fun k q hq => ?_⟩
    · have hc : c < 7 := by
        have h := (List.getElem?_eq_some_iff.mp hq).1
        simpa [hCl] using h
      have h2 := hq.symm.trans (hCl_at hc)
      cases h2
      exact hD c hc
    · have hq' : (hAT.map (fun t => (dA t, t)))[k]? = some q := hq
      rw [List.getElem?_map] at hq'
      cases hk : hAT[k]? with
      | none => rw [hk] at hq'; cases hq'
      | some ty =>
        rw [hk] at hq'
        cases hq'
        exact hA ty (List.mem_of_getElem? hk)
  have hW : h_W X (h_M0 L xs) s s.heap := by
    refine ⟨?_, Nat.le_refl 1, ?_, fun p k hp hk => ?_, L, rfl, ?_⟩
    · show s.heap.size = xo X + 1; omega
    · omega
    · have : (if p = 0 then some (.inr (.inl (.int, L))) else none : Option hK) = some k := hk
      rw [if_neg hp] at this
      cases this
    · rw [hxb]; exact hXs
  obtain ⟨res, ⟨g1, g2, g3⟩, hq1, hq2, hq3⟩ := hlaw X L xs hL
  have hE : h_ex s := ⟨va_AO.of (hts _ over_1.1), va_AO.of (hts _ over_1.2.1), va_AO.of (hts _ over_1.2.2), va_Nw.of rfl (hts _ nest_1), va_Nw.of rfl (hts _ nest_2)⟩
  have hv : h_val X (.inr (some 0)) = .ref b := by show Value.ref (h_ad X 0) = _; simp [h_ad, hxb]
  have hen := h_entry (X := X) (As := [.inr (some 0)]) (n := 4) (by decide)
  rw [List.map_cons, List.map_nil, hv] at hen
  rw [lg_entry_eq]
  have hret : meth.sig.returnType = some .boolean := hr
  have hg := g3 room_1 p e s m #[Value.ref b] below meth c (lw_Z below #[Value.ref b] s) s.heap [] _ 0 0 ⟨hx, hb, hret, hml, hlocks, (fun h => by exact absurd h (by decide)), hown, fun w hw => hts w (h_tbl_in hw), hKn, by omega, (by decide), (by decide), oL_law, hE⟩ (by show mK res.2 ≤ 1 + 600000; omega) (by show mz res.2 ≤ 0 + 7302250; omega) rfl rfl hW hen va_S.rf ?_
  · rw [hxl] at hg
    exact hg
  · intro pc' ls' H' locs' cells' slots' ec es hfin hW' hS'
    obtain ⟨rv, M2⟩ := res
    have hrv : rv = some (.inl 1) := hq1
    subst hrv
    rw [hxl]
    refine va_forget (fun q hq => ?_) ?_
    · have h := hS'.2.2 q hq
      have h2 : xo X + 1 ≤ q.base := h
      omega
    · refine W.widen (k := 600000) (n := 7302250) ?_ ?_ ?_
      · have : mK M2 ≤ 600001 := hq2
        have : cells' + 1 = mK M2 := ec
        omega
      · have : mz M2 ≤ 7302250 := hq3
        have : slots' + 0 = mz M2 := es
        omega
      · exact lw_ret hx hb hr hlocks hfin.1
