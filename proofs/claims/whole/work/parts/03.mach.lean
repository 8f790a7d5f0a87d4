/-! THE MODEL OF MEMORY: places (0: the script; p: the cell at xo + p), a kind a place, ints and references by place and slot.
    'Wp X k n0 z0 pc L st M Q': method k, standing at pc with locals L, stack st and memory M, returns, with Q of answer and memory. -/
abbrev hV : Type := Int32 ⊕ Option Nat
abbrev hK : Type := Nat ⊕ ((FieldType × Nat) ⊕ (FieldType × Nat))
abbrev hM : Type := Nat × Nat × (Nat → Option hK) × (Nat → Nat → Int32) × (Nat → Nat → Option Nat)
abbrev hX : Type := Launch × Nat × Nat × va_G × (FieldType → ClassId)
abbrev hMI : Type := MethodName × ByteArray × Nat × Option FieldType × Nat × Nat × List (Nat × Instr × Nat)
abbrev xl (X : hX) : Launch := X.1
abbrev xb (X : hX) : Nat := X.2.1
abbrev xo (X : hX) : Nat := X.2.2.1
abbrev xD (X : hX) : va_G := X.2.2.2.1
abbrev xA (X : hX) : FieldType → ClassId := X.2.2.2.2
abbrev mK (M : hM) : Nat := M.1
abbrev mz (M : hM) : Nat := M.2.1
abbrev mk (M : hM) : Nat → Option hK := M.2.2.1
abbrev md (M : hM) : Nat → Nat → Int32 := M.2.2.2.1
abbrev mr (M : hM) : Nat → Nat → Option Nat := M.2.2.2.2
abbrev ky (k : hMI) : MethodName := k.1
abbrev kc (k : hMI) : ByteArray := k.2.1
abbrev kml (k : hMI) : Nat := k.2.2.1
abbrev krt (k : hMI) : Option FieldType := k.2.2.2.1
abbrev kfr (k : hMI) : Nat := k.2.2.2.2.1
abbrev klo (k : hMI) : Nat := k.2.2.2.2.2.1
abbrev ktb (k : hMI) : List (Nat × Instr × Nat) := k.2.2.2.2.2.2
/-- an update at a place and a slot -/
def hu {α : Type} (f : Nat → Nat → α) (p j : Nat) (x : α) : Nat → Nat → α := fun q i => if q = p ∧ i = j then x else f q i
theorem hu_s {α : Type} {f : Nat → Nat → α} {p j : Nat} {x : α} : hu f p j x p j = x := by simp [hu]
theorem hu_n {α : Type} {f : Nat → Nat → α} {p j q i : Nat} {x : α} (h : ¬ (q = p ∧ i = j)) : hu f p j x q i = f q i := by simp only [hu]; rw [if_neg h]
/-- a new place -/
def hu1 {α : Type} (f : Nat → α) (p : Nat) (x : α) : Nat → α := fun q => if q = p then x else f q
theorem hu1_s {α : Type} {f : Nat → α} {p : Nat} {x : α} : hu1 f p x p = x := by simp [hu1]
theorem hu1_n {α : Type} {f : Nat → α} {p q : Nat} {x : α} (h : ¬ q = p) : hu1 f p x q = f q := by simp only [hu1]; rw [if_neg h]
/-- the words of the tables that every call keeps -/
def h_tbl : List Cond := lw_tbl.filter goodWord
theorem h_tbl_in {w : Cond} (h : w ∈ h_tbl) : w ∈ lw_tbl := (List.mem_filter.mp h).1
/-- two more kinds, kept by rows of their own: arrays of references, two links among nest mates -/
def h_ex (U : State) : Prop := va_AO RX1 U ∧ va_AO RX2 U ∧ va_AO RX4 U ∧ va_Nw (.methodLinkNest RX5 19 yX0_init RX5) U ∧ va_Nw (.methodLinkNest RX3 32 yX4_init RX5) U
theorem h_ex_warm {s U : State} (hw : s.WarmedH U.vm) (h : h_ex s) : h_ex U := ⟨h.1.moved hw.alike, h.2.1.moved hw.alike, h.2.2.1.moved hw.alike, va_Nw.warmM hw h.2.2.2.1, va_Nw.warmM hw h.2.2.2.2⟩
theorem h_ex_call {U : State} {g : JFrame} {mk : MethodId} {a : Array Value} (h : h_ex U) : h_ex (U.calling g mk a) := ⟨va_AO.moved (u := U) (Vm.Alike.refl U.vm) h.1, va_AO.moved (u := U) (Vm.Alike.refl U.vm) h.2.1, va_AO.moved (u := U) (Vm.Alike.refl U.vm) h.2.2.1, va_Nw.same (u := U) rfl rfl h.2.2.2.1, va_Nw.same (u := U) rfl rfl h.2.2.2.2⟩
theorem iyX0 : ∀ w ∈ wsX00, w ∈ h_tbl := by decide +kernel
theorem iyX1 : ∀ w ∈ wsX10, w ∈ h_tbl := by decide +kernel
theorem iyX2 : ∀ w ∈ wsX20, w ∈ h_tbl := by decide +kernel
theorem iyX3 : ∀ w ∈ wsX30, w ∈ h_tbl := by decide +kernel
theorem iyX4 : ∀ w ∈ wsX40, w ∈ h_tbl := by decide +kernel
theorem iyX5 : ∀ w ∈ wsX50, w ∈ h_tbl := by decide +kernel
theorem iyX6 : ∀ w ∈ wsX60, w ∈ h_tbl := by decide +kernel
def hCl : List vw_C := [(RX0, TX0, 4), (RX1, TX1, 9), (RX2, TX2, 7), (RX3, TX3, 8), (RX4, TX4, 8), (RX5, TX5, 6), (RX6, TX6, 26)]
def hCN : Nat → String := fun c => match c with | 0 => RX0 | 1 => RX1 | 2 => RX2 | 3 => RX3 | 4 => RX4 | 5 => RX5 | _ => RX6
def hCT : Nat → u_T := fun c => match c with | 0 => TX0 | 1 => TX1 | 2 => TX2 | 3 => TX3 | 4 => TX4 | 5 => TX5 | _ => TX6
def hTy : Nat → Nat → FieldType := fun c => match c with | 0 => tyX0 | 1 => tyX1 | 2 => tyX2 | 3 => tyX3 | 4 => tyX4 | 5 => tyX5 | _ => tyX6
def hN : Nat → Nat := fun c => match c with | 0 => 4 | 1 => 9 | 2 => 7 | 3 => 8 | 4 => 8 | 5 => 6 | _ => 26
theorem hCl_at {c : Nat} (h : c < 7) : hCl[c]? = some (hCN c, hCT c, hN c) := by
  rcases (show c = 0 ∨ c = 1 ∨ c = 2 ∨ c = 3 ∨ c = 4 ∨ c = 5 ∨ c = 6 by omega) with rfl | rfl | rfl | rfl | rfl | rfl | rfl <;> rfl
theorem hCl_in {c : Nat} (h : c < 7) : ∀ w ∈ u_ws (hCN c) (hCT c) (hN c), w ∈ h_tbl := by
  rcases (show c = 0 ∨ c = 1 ∨ c = 2 ∨ c = 3 ∨ c = 4 ∨ c = 5 ∨ c = 6 by omega) with rfl | rfl | rfl | rfl | rfl | rfl | rfl
  · exact iyX0
  · exact iyX1
  · exact iyX2
  · exact iyX3
  · exact iyX4
  · exact iyX5
  · exact iyX6
theorem hCl_ty {c : Nat} (h : c < 7) : ∀ k, k < hN c → parseFieldDescriptor (hCT c k).2.2.1 = some (hTy c k) := by
  rcases (show c = 0 ∨ c = 1 ∨ c = 2 ∨ c = 3 ∨ c = 4 ∨ c = 5 ∨ c = 6 by omega) with rfl | rfl | rfl | rfl | rfl | rfl | rfl
  · exact tyX0_ok
  · exact tyX1_ok
  · exact tyX2_ok
  · exact tyX3_ok
  · exact tyX4_ok
  · exact tyX5_ok
  · exact tyX6_ok
theorem hCl_nm {c : Nat} (h : c < 7) : ∀ a, a < hN c → ∀ b, b < hN c → a ≠ b → (hCT c a).2.1 ≠ (hCT c b).2.1 := by
  rcases (show c = 0 ∨ c = 1 ∨ c = 2 ∨ c = 3 ∨ c = 4 ∨ c = 5 ∨ c = 6 by omega) with rfl | rfl | rfl | rfl | rfl | rfl | rfl
  · exact nmX0
  · exact nmX1
  · exact nmX2
  · exact nmX3
  · exact nmX4
  · exact nmX5
  · exact nmX6
def hAT : List FieldType := [.int, .boolean, .object RX1, .object RX2, .object RX4]
def h_tys (X : hX) : List (ClassId × FieldType) := hAT.map (fun t => (xA X t, t))
def h_ad (X : hX) (p : Nat) : Nat := if p = 0 then xb X else xo X + p
theorem h_ad_p {X : hX} {p : Nat} (h : p ≠ 0) : h_ad X p = xo X + p := by simp [h_ad, h]
def h_val (X : hX) (v : hV) : Value := match v with
  | .inl x => .int x
  | .inr r => va_rf (r.map (h_ad X))
theorem h_val_cat (X : hX) (v : hV) : (h_val X v).category = 1 := by
  rcases v with x | r
  · rfl
  · rcases r with _ | a <;> rfl
def h_fv (X : hX) (M : hM) (p c k : Nat) : Value := if (hTy c k).isReference = true then va_rf ((mr M p k).map (h_ad X)) else .int (md M p k)
def h_fs (X : hX) (M : hM) (p c : Nat) : List Value := (List.range (hN c)).map (h_fv X M p c)
theorem h_fs_at {X : hX} {M : hM} {p c k : Nat} (h : k < hN c) : (h_fs X M p c)[k]? = some (h_fv X M p c k) := by
  simp [h_fs, h]
def h_cell (X : hX) (M : hM) (p : Nat) (k : hK) : va_E := match k with
  | .inl c => .inr (c, h_fs X M p c)
  | .inr (.inl (ty, n)) => .inl (xA X ty, n, .inl (md M p))
  | .inr (.inr (ty, n)) => .inl (xA X ty, n, .inr (.inr (.inr (.inr (fun j => (mr M p j).map (h_ad X))))))
def h_W (X : hX) (M : hM) (U : State) (H : Heap) : Prop :=
  H.size = xo X + mK M ∧ 1 ≤ mK M ∧ xb X ≤ xo X ∧ (∀ (p : Nat) (k : hK), p ≠ 0 → mk M p = some k → va_at (xD X) hCl (xo X + p, h_cell X M p k) H) ∧ ∃ n, mk M 0 = some (.inr (.inl (.int, n))) ∧ va_X (xb X) n (md M 0) U H
def h_L (X : hX) (ls : Array Slot) (n : Nat) (L : List (Option hV)) : Prop := ls.size = n ∧ lv_wf ls ∧ L.length ≤ n ∧ ∀ (i : Nat) (v : hV), L[i]? = some (some v) → ls[i]? = some (.val (h_val X v))
def xF (X : hX) : Nat → Prop := fun q => xo X + 1 ≤ q
def h_ok (k : hMI) : Prop := ∀ q ∈ ktb k, decode (kc k) q.1 = .ok q.2
def h_at (k : hMI) (pc : Nat) : Option (Instr × Nat) := (ktb k).lookup pc
theorem h_lookup {β : Type} : ∀ (l : List (Nat × β)) {a : Nat} {b : β}, l.lookup a = some b → (a, b) ∈ l
  | [], _, _, h => by simp at h
  | (x, y) :: l, a, b, h => by
    rw [List.lookup_cons] at h
    cases hx : a == x with
    | true =>
      rw [hx] at h
      cases h
      rw [show a = x by simpa using hx]
      exact List.mem_cons_self
    | false =>
      rw [hx] at h
      exact List.mem_cons_of_mem _ (h_lookup l h)
theorem h_dec {k : hMI} {pc : Nat} {q : Instr × Nat} (hk : h_ok k) (h : h_at k pc = some q) : decode (kc k) pc = .ok q := hk (pc, q) (h_lookup _ h)
def h_Cx (X : hX) (k : hMI) (R : Room) (p : Program) (s : State) (m : MethodId) (args : Array Value) (meth : Method) (c : Code) : Prop :=
  p.tables.exec = Jvm.exec ∧ c.code = kc k ∧ meth.sig.returnType = krt k ∧ c.maxLocals = kml k ∧ meth.locks = false ∧ ((ky k).name = "<init>" → meth.name = "<init>") ∧ s.vm.findClass (ky k).cls = some m.cls ∧ (∀ w ∈ h_tbl, w.before args s = true) ∧ va_K (xD X) hCl (h_tys X) s ∧ xo X + 1 ≤ s.heap.size ∧ kfr k ≤ R.frames ∧ klo k ≤ R.locals ∧ h_ok k ∧ h_ex s
def h_fin (k : hMI) (pc : Nat) (rv : Option hV) : Prop := match rv with
  | none => decode (kc k) pc = .ok (.return_, 1) ∧ krt k = none
  | some (.inl v) => decode (kc k) pc = .ok (.ireturn, 1) ∧ ∃ ty, krt k = some ty ∧ narrow ty (.int v) = .int v
  | some (.inr _) => False
def h_R (X : hX) (k : hMI) (n0 z0 : Nat) (res : Option hV × hM) (pc : Nat) (L : List (Option hV)) (st : List hV) (M : hM) : Prop :=
  mK M ≤ mK res.2 ∧ mz M ≤ mz res.2 ∧
  ∀ (R : Room) (p : Program) (e : Env) (s : State) (m : MethodId) (args : Array Value) (below : List Frame) (meth : Method) (c : Code) (Qf : State → Prop) (H : Heap) (locs : List Loc) (ls : Array Slot) (cells slots : Nat),
    h_Cx X k R p s m args meth c → mK res.2 ≤ n0 + R.cells → mz res.2 ≤ z0 + R.slots → cells + n0 = mK M → slots + z0 = mz M → h_W X M s H → h_L X ls (kml k) L → va_S (xF X) s.heap H locs →
    (∀ (pc' : Nat) (ls' : Array Slot) (H' : Heap) (locs' : List Loc) (cells' slots' : Nat), cells' + n0 = mK res.2 → slots' + z0 = mz res.2 → h_fin k pc' res.1 → h_W X res.2 s H' → va_S (xF X) s.heap H' locs' → W p (xl X) e R s m args below meth c H' locs' cells' slots' Qf (F0 m pc' ls' (res.1.toList.map (h_val X)))) →
    W p (xl X) e R s m args below meth c H locs cells slots Qf (F0 m pc ls (st.map (h_val X)))
def Wp (X : hX) (k : hMI) (n0 z0 : Nat) (pc : Nat) (L : List (Option hV)) (st : List hV) (M : hM) (Q : Option hV → hM → Prop) : Prop := ∃ res, h_R X k n0 z0 res pc L st M ∧ Q res.1 res.2
section GO
variable {X : hX} {k : hMI} {n0 z0 pc pc' : Nat} {L L' : List (Option hV)} {st st' : List hV} {M M' : hM} {Q : Option hV → hM → Prop}
theorem wp_go (hK : mK M ≤ mK M') (hz : mz M ≤ mz M')
    (go : ∀ (R : Room) (p : Program) (e : Env) (s : State) (m : MethodId) (args : Array Value) (below : List Frame) (meth : Method) (c : Code) (Qf : State → Prop) (H : Heap) (locs : List Loc) (ls : Array Slot) (cells slots : Nat),
      h_Cx X k R p s m args meth c → mK M' ≤ n0 + R.cells → mz M' ≤ z0 + R.slots → cells + n0 = mK M → slots + z0 = mz M → h_W X M s H → h_L X ls (kml k) L → va_S (xF X) s.heap H locs →
      (∀ (H' : Heap) (locs' : List Loc) (ls' : Array Slot) (cells' slots' : Nat), cells' + n0 = mK M' → slots' + z0 = mz M' → h_W X M' s H' → h_L X ls' (kml k) L' → va_S (xF X) s.heap H' locs' → W p (xl X) e R s m args below meth c H' locs' cells' slots' Qf (F0 m pc' ls' (st'.map (h_val X)))) →
      W p (xl X) e R s m args below meth c H locs cells slots Qf (F0 m pc ls (st.map (h_val X))))
    (kk : Wp X k n0 z0 pc' L' st' M' Q) : Wp X k n0 z0 pc L st M Q := by
  obtain ⟨res, ⟨g1, g2, g3⟩, hq⟩ := kk
  refine ⟨res, ⟨Nat.le_trans hK g1, Nat.le_trans hz g2, ?_⟩, hq⟩
  intro R p e s m args below meth c Qf H locs ls cells slots C hc hs ec es hW hL hS hf
  refine go R p e s m args below meth c Qf H locs ls cells slots C (Nat.le_trans g1 hc) (Nat.le_trans g2 hs) ec es hW hL hS ?_
  intro H' locs' ls' cells' slots' ec' es' hW' hL' hS'
  exact g3 R p e s m args below meth c Qf H' locs' ls' cells' slots' C hc hs ec' es' hW' hL' hS' hf
/-- a step that changes neither memory nor locals -/
theorem wp_st (go : ∀ (R : Room) (p : Program) (e : Env) (s : State) (m : MethodId) (args : Array Value) (below : List Frame) (meth : Method) (c : Code) (Qf : State → Prop) (H : Heap) (locs : List Loc) (ls : Array Slot) (cells slots : Nat),
      h_Cx X k R p s m args meth c → cells ≤ R.cells → slots ≤ R.slots → h_W X M s H → h_L X ls (kml k) L → va_S (xF X) s.heap H locs →
      W p (xl X) e R s m args below meth c H locs cells slots Qf (F0 m pc' ls (st'.map (h_val X))) →
      W p (xl X) e R s m args below meth c H locs cells slots Qf (F0 m pc ls (st.map (h_val X))))
    (kk : Wp X k n0 z0 pc' L st' M Q) : Wp X k n0 z0 pc L st M Q :=
  wp_go (Nat.le_refl _) (Nat.le_refl _) (fun R p e s m args below meth c Qf H locs ls cells slots C hc hs ec es hW hL hS hk => go R p e s m args below meth c Qf H locs ls cells slots C (by omega) (by omega) hW hL hS (hk H locs ls cells slots ec es hW hL hS)) kk
/-- a step that changes locals alone -/
theorem wp_lo (go : ∀ (R : Room) (p : Program) (e : Env) (s : State) (m : MethodId) (args : Array Value) (below : List Frame) (meth : Method) (c : Code) (Qf : State → Prop) (H : Heap) (locs : List Loc) (ls : Array Slot) (cells slots : Nat),
      h_Cx X k R p s m args meth c → h_L X ls (kml k) L →
      (∀ ls', h_L X ls' (kml k) L' → W p (xl X) e R s m args below meth c H locs cells slots Qf (F0 m pc' ls' (st'.map (h_val X)))) →
      W p (xl X) e R s m args below meth c H locs cells slots Qf (F0 m pc ls (st.map (h_val X))))
    (kk : Wp X k n0 z0 pc' L' st' M Q) : Wp X k n0 z0 pc L st M Q :=
  wp_go (Nat.le_refl _) (Nat.le_refl _) (fun R p e s m args below meth c Qf H locs ls cells slots C hc hs ec es hW hL hS hk => go R p e s m args below meth c Qf H locs ls cells slots C hL (fun ls' hL' => hk H locs ls' cells slots ec es hW hL' hS)) kk
/-- storing into a local -/
theorem h_L_has {ls : Array Slot} {n : Nat} (h : h_L X ls n L) : lv_has ls n ((List.range L.length).filterMap (fun i => match L[i]? with | some (some v) => some (i, h_val X v) | _ => none)) := by
  refine ⟨h.1, h.2.1, fun q hq => ?_⟩
  obtain ⟨i, -, hi⟩ := List.mem_filterMap.mp hq
  cases hL : L[i]? with
  | none => rw [hL] at hi; cases hi
  | some o =>
    cases o with
    | none => rw [hL] at hi; cases hi
    | some v =>
      rw [hL] at hi
      cases hi
      exact h.2.2.2 i v hL
theorem h_L_set {ls ls' : Array Slot} {n i : Nat} {v : hV} (h : h_L X ls n L) (hi : i < n) (h' : lv_has ls' n ((i, h_val X v) :: ((List.range L.length).filterMap (fun i => match L[i]? with | some (some v) => some (i, h_val X v) | _ => none)).filter (fun q => !(q.1 == i) && !(q.1 + 1 == i && q.2.category == 2)))) : h_L X ls' n (L.set i (some v)) := by
  refine ⟨h'.1, h'.2.1, by simpa using h.2.2.1, fun j w hj => ?_⟩
  by_cases e : j = i
  · subst e
    rw [List.getElem?_set_self' ] at hj
    cases hL : L[j]? with
    | none => rw [hL] at hj; simp at hj
    | some o =>
      rw [hL] at hj
      simp at hj
      subst hj
      exact h'.2.2 (j, h_val X v) List.mem_cons_self
  · rw [List.getElem?_set_ne (fun q => e q.symm)] at hj
    refine h'.2.2 (j, h_val X w) (List.mem_cons_of_mem _ (List.mem_filter.mpr ⟨List.mem_filterMap.mpr ⟨j, List.mem_range.mpr ?_, by rw [hj]⟩, ?_⟩))
    · exact (List.getElem?_eq_some_iff.mp hj).1
    · simp [e, h_val_cat]
end GO
