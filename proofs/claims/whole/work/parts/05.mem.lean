/-! MEMORY STEPS -/
theorem h_P1 {D : va_G} {cl : List vw_C} {q : Nat × va_E} {H : Heap} (h : va_at D cl q H) : va_P D cl [q] H := by
  intro i x hx
  cases i with
  | zero => cases hx; exact h
  | succ i => simp at hx
theorem h_W_ne {X : hX} {M : hM} {U : State} {H : Heap} (h : h_W X M U H) {p : Nat} {kd : hK} (hk : mk M p = some kd) (hne : ∀ n, kd ≠ .inr (.inl (.int, n))) : p ≠ 0 := by
  intro e
  subst e
  obtain ⟨-, -, -, -, n, h0, -⟩ := h
  rw [hk] at h0
  exact hne n (Option.some.inj h0)
theorem h_W_moved {X : hX} {M : hM} {u U : State} {H : Heap} (hvm : u.vm.Alike U.vm) (h : h_W X M u H) : h_W X M U H := by
  obtain ⟨h1, h2, h3, h4, n, h5, h6⟩ := h
  exact ⟨h1, h2, h3, h4, n, h5, h6.moved hvm⟩
theorem h_V {X : hX} {M : hM} {p c j : Nat} (hj : j < hN c) : vp_V (h_fs X M p c) j = h_fv X M p c j := by
  have := h_fs_at (X := X) (M := M) (p := p) hj
  simp [vp_V, this]
def h_flc (own : String) (idx c j : Nat) : Prop := c < 7 ∧ j < hN c ∧ Cond.fieldLink own idx (hCT c j).1 (hCT c j).2.1 (hCT c j).2.2.1 ∈ h_tbl
abbrev h_fl (k : hMI) (idx c j : Nat) : Prop := h_flc (ky k).cls idx c j
section MEM
variable {X : hX} {k : hMI} {n0 z0 pc : Nat} {L : List (Option hV)} {st : List hV} {M : hM} {Q : Option hV → hM → Prop}
theorem wp_getI {idx a c j : Nat} (hat : h_at k pc = some (.getfield idx, 3)) (hf : h_fl k idx c j) (hty : (hTy c j).isReference = false) (hk : mk M a = some (.inl c)) (kk : Wp X k n0 z0 (pc + 3) L (.inl (md M a j) :: st) M Q) : Wp X k n0 z0 pc L (.inr (some a) :: st) M Q :=
  wp_st (fun R p e s m args below meth cd Qf H locs ls cells slots C _ _ hW hL hS w => by
    have ha := h_W_ne hW hk (fun n h => by cases h)
    have hP := h_P1 (hW.2.2.2.1 a _ ha hk)
    show W p (xl X) e R s m args below meth cd H locs cells slots Qf (F0 m pc ls (.ref (h_ad X a) :: st.map (h_val X)))
    rw [h_ad_p ha]
    exact va_get (D := xD X) (ci := c) (v := .int (md M a j)) (C := hCN c) (T := hCT c) (N := hN c) C.1 C.2.1 C.2.2.2.2.2.2.2.1 (hCl_in hf.1) C.2.2.2.2.2.2.1 C.2.2.2.2.2.2.2.2.1 hP 0 rfl (hCl_at hf.1) j hf.2.1 (C.2.2.2.2.2.2.2.1 _ hf.2.2) (fun _ h => h) (by rw [h_fs_at hf.2.1]; simp [h_fv, hty]) (h_dec C.2.2.2.2.2.2.2.2.2.2.2.2.1 hat) w) kk
theorem wp_getR {idx a c j q : Nat} (hat : h_at k pc = some (.getfield idx, 3)) (hf : h_fl k idx c j) (hty : (hTy c j).isReference = true) (hk : mk M a = some (.inl c)) (hq : mr M a j = some q) (kk : Wp X k n0 z0 (pc + 3) L (.inr (some q) :: st) M Q) : Wp X k n0 z0 pc L (.inr (some a) :: st) M Q :=
  wp_st (fun R p e s m args below meth cd Qf H locs ls cells slots C _ _ hW hL hS w => by
    have ha := h_W_ne hW hk (fun n h => by cases h)
    have hP := h_P1 (hW.2.2.2.1 a _ ha hk)
    show W p (xl X) e R s m args below meth cd H locs cells slots Qf (F0 m pc ls (.ref (h_ad X a) :: st.map (h_val X)))
    rw [h_ad_p ha]
    exact va_get (D := xD X) (ci := c) (v := .ref (h_ad X q)) (C := hCN c) (T := hCT c) (N := hN c) C.1 C.2.1 C.2.2.2.2.2.2.2.1 (hCl_in hf.1) C.2.2.2.2.2.2.1 C.2.2.2.2.2.2.2.2.1 hP 0 rfl (hCl_at hf.1) j hf.2.1 (C.2.2.2.2.2.2.2.1 _ hf.2.2) (fun _ h => h) (by rw [h_fs_at hf.2.1]; simp [h_fv, hty, hq, va_rf]) (h_dec C.2.2.2.2.2.2.2.2.2.2.2.2.1 hat) w) kk
/-- the world behind a change of one cell -/
theorem h_W_put {M' : hM} {U : State} {H H' : Heap} {a : Nat} (hW : h_W X M U H) (z : H'.size = H.size) (oq : ∀ q : Nat, q ≠ xo X + a → H'[q]? = H[q]?) (ha : a ≠ 0) (e1 : mK M' = mK M) (e2 : mk M' = mk M) (ed : ∀ p, p ≠ a → md M' p = md M p) (er : ∀ p, p ≠ a → mr M' p = mr M p)
    (hn : ∀ kd, mk M a = some kd → va_at (xD X) hCl (xo X + a, h_cell X M' a kd) H') : h_W X M' U H' := by
  obtain ⟨h1, h2, h3, h4, n, h5, h6⟩ := hW
  refine ⟨by rw [z, h1, e1], by rw [e1]; exact h2, h3, fun p kd hp hk => ?_, n, by rw [e2]; exact h5, ?_⟩
  · rw [e2] at hk
    by_cases e : p = a
    · subst e; exact hn kd hk
    · have hc : h_cell X M' p kd = h_cell X M p kd := by
        rcases kd with c | ⟨ty, n⟩ | ⟨ty, n⟩
        · simp only [h_cell, h_fs]
          have hff : h_fv X M' p c = h_fv X M p c := by
            funext x
            simp only [h_fv, ed p e, er p e]
          rw [hff]
        · simp only [h_cell, ed p e]
        · simp only [h_cell, er p e]
      rw [hc]
      exact (h4 p kd hp hk).kept (oq _ (by show xo X + p ≠ xo X + a; omega))
  · rw [ed 0 (fun h => ha h.symm)]
    exact h6.kept (oq _ (by have : xo X + 1 ≤ xo X + a := by omega
                            omega))
theorem hS_put {s : State} {H H1 : Heap} {locs : List Loc} {a i : Nat} (h : va_S (xF X) s.heap H locs) (z : H1.size = H.size) (oq : ∀ q : Nat, q ≠ xo X + a → H1[q]? = H[q]?) (ha : a ≠ 0) : va_S (xF X) s.heap H1 (locs ++ [⟨xo X + a, i⟩]) :=
  h.put z oq (show xo X + 1 ≤ xo X + a by omega)
/-- what a put leaves of an object -/
theorem h_ob_put {D : va_G} {c a j : Nat} {H' : Heap} {V : Nat → Value} {v : Value} {cell : Cell} (hc : c < 7) (hj : j < hN c) (q4 : ∀ i, i < hN c → cell.slots[D.2 c i]? = some (V i)) (q2 : cell.cls = D.1 c) (q3 : cell.vm = .none) (hap : ∀ x y, x < hN c → y < hN c → x ≠ y → (D.2 c) x ≠ (D.2 c) y) (e1 : H'[a]? = some (cell.setSlot (D.2 c j) v)) {fs : List Value} (hfs : ∀ i, i < hN c → vp_V fs i = if i = j then v else V i) : va_at D hCl (a, .inr (c, fs)) H' :=
  ⟨_, hCl_at hc, t_OB.to (V := updV V j v) ⟨_, e1, q2, q3, t_set q4 hap hj v⟩ (fun i hi => by rw [hfs i hi]; rfl)⟩
theorem wp_putI {idx a c j : Nat} {x : Int32} (hat : h_at k pc = some (.putfield idx, 3)) (hf : h_fl k idx c j) (hty : (hTy c j).isReference = false) (hfin : (hCT c j).2.2.2 = false) (hx : narrow (hTy c j) (.int x) = .int x ∧ fits (hTy c j) (.int x) = true) (hk : mk M a = some (.inl c))
    (kk : Wp X k n0 z0 (pc + 3) L st (mK M, mz M, mk M, hu (md M) a j x, mr M) Q) : Wp X k n0 z0 pc L (.inl x :: .inr (some a) :: st) M Q :=
  by
    refine wp_go ?_ ?_ ?_ kk
    · exact Nat.le_refl _
    · exact Nat.le_refl _
    intro R p e s m args below meth cd Qf H locs ls cells slots C hcs hss ec es hW hL hS w
    have ha := h_W_ne hW hk (fun n h => by cases h)
    have hat1 := hW.2.2.2.1 a _ ha hk
    show W p (xl X) e R s m args below meth cd H locs cells slots Qf (F0 m pc ls (.int x :: .ref (h_ad X a) :: st.map (h_val X)))
    rw [h_ad_p ha]
    have hts := C.2.2.2.2.2.2.2.1
    have hKK := C.2.2.2.2.2.2.2.2.1
    have hc := hCl_at hf.1
    have hap := va_apart (own := (ky k).cls) (D := xD X) hts (hCl_in hf.1) (hTy c) (hCl_ty hf.1) (hCl_nm hf.1) hKK hc
    obtain ⟨r, h1, cell, q1, q2, q3, q4⟩ := hat1
    have hr : r = (hCN c, hCT c, hN c) := Option.some.inj (h1.symm.trans hc)
    subst hr
    obtain ⟨hSl, hfc, kC, hkC, hkind⟩ := hKK.1 c _ hc
    obtain ⟨cf, kf, fi, f, hi, hsl⟩ := hSl j hf.2.1
    have hlay := hts _ (hCl_in hf.1 _ (u_in_lay hf.2.1))
    unfold u_lay at hlay
    rw [if_neg (by rw [hfin]; decide)] at hlay
    have hst := (u_facts hfc hkC (u_lays hts (hCl_in hf.1) hf.2.1) hi).1
    have h6 := u_store hfc hkC hkind hlay hi (hCl_ty hf.1 j hf.2.1) hx.1 hx.2
    refine W.putK C.1 C.2.1 (f := f) ⟨C.2.2.2.2.2.2.1, hts _ hf.2.2, ⟨_, _, _, hi⟩, hst⟩ (by rw [q2]; exact h6) q1 q3 (by rw [hsl]; exact k2_hasslot (q4 j hf.2.1)) rfl rfl (h_dec C.2.2.2.2.2.2.2.2.2.2.2.2.1 hat) fun H' e1 e2 e3 => ?_
    rw [hsl] at e1 ⊢
    refine w H' _ ls cells slots ec es (h_W_put (a := a) hW e2 e3 ha rfl rfl (fun p hp => ?_) (fun p hp => rfl) (fun kd hkd => ?_)) hL (hS_put hS e2 e3 ha)
    · funext i
      exact hu_n (fun h => hp h.1)
    · rw [hk] at hkd
      cases hkd
      refine h_ob_put hf.1 hf.2.1 q4 q2 q3 hap e1 (fun i hi => ?_)
      rw [h_V hi, h_V hi]
      by_cases e : i = j
      · subst e
        rw [if_pos rfl]
        simp [h_fv, hty, md, mr, hu]
      · rw [if_neg e]
        simp [h_fv, md, mr, hu, e]
theorem wp_putFI {idx a c j : Nat} {x : Int32} (hat : h_at k pc = some (.putfield idx, 3)) (hf : h_fl k idx c j) (hty : (hTy c j).isReference = false) (hfin : (hCT c j).2.2.2 = true) (hin2 : (ky k).name = "<init>") (hdecl : (hCT c j).1 = (ky k).cls) (hx : narrow (hTy c j) (.int x) = .int x ∧ fits (hTy c j) (.int x) = true) (hk : mk M a = some (.inl c))
    (kk : Wp X k n0 z0 (pc + 3) L st (mK M, mz M, mk M, hu (md M) a j x, mr M) Q) : Wp X k n0 z0 pc L (.inl x :: .inr (some a) :: st) M Q :=
  by
    refine wp_go ?_ ?_ ?_ kk
    · exact Nat.le_refl _
    · exact Nat.le_refl _
    intro R p e s m args below meth cd Qf H locs ls cells slots C hcs hss ec es hW hL hS w
    have ha := h_W_ne hW hk (fun n h => by cases h)
    have hat1 := hW.2.2.2.1 a _ ha hk
    show W p (xl X) e R s m args below meth cd H locs cells slots Qf (F0 m pc ls (.int x :: .ref (h_ad X a) :: st.map (h_val X)))
    rw [h_ad_p ha]
    have hts := C.2.2.2.2.2.2.2.1
    have hKK := C.2.2.2.2.2.2.2.2.1
    have hc := hCl_at hf.1
    have hap := va_apart (own := (ky k).cls) (D := xD X) hts (hCl_in hf.1) (hTy c) (hCl_ty hf.1) (hCl_nm hf.1) hKK hc
    obtain ⟨r, h1, cell, q1, q2, q3, q4⟩ := hat1
    have hr : r = (hCN c, hCT c, hN c) := Option.some.inj (h1.symm.trans hc)
    subst hr
    obtain ⟨hSl, hfc, kC, hkC, hkind⟩ := hKK.1 c _ hc
    obtain ⟨cf, kf, fi, f, hi, hsl⟩ := hSl j hf.2.1
    have hlay := hts _ (hCl_in hf.1 _ (u_in_lay hf.2.1))
    unfold u_lay at hlay
    rw [if_pos hfin] at hlay
    have hst := (u_facts hfc hkC (u_lays hts (hCl_in hf.1) hf.2.1) hi).1
    have hcf : m.cls = cf := by
      obtain ⟨_, _, c', _, _, _, -, -, hf', -, -, -, hown2, -⟩ := Cond.laysFinal_spec hlay
      have e1 : c' = cf := by have := hi.symm.trans hf'; simp at this; exact this.1.symm
      rw [hdecl] at hown2
      rw [← e1]; exact Option.some.inj (C.2.2.2.2.2.2.1.symm.trans hown2)
    have h6 := u_fits hfc hkC hkind (Or.inr hlay) hi (hCl_ty hf.1 j hf.2.1) hx.1 hx.2
    refine W.putFinK C.1 C.2.1 C.2.2.2.2.2.2.1 (hts _ hf.2.2) hi hst hcf (C.2.2.2.2.2.1 hin2) (by rw [q2]; exact h6) q1 q3 (by rw [hsl]; exact k2_hasslot (q4 j hf.2.1)) rfl rfl (h_dec C.2.2.2.2.2.2.2.2.2.2.2.2.1 hat) fun H' e1 e2 e3 => ?_
    rw [hsl] at e1 ⊢
    refine w H' _ ls cells slots ec es (h_W_put (a := a) hW e2 e3 ha rfl rfl (fun p hp => ?_) (fun p hp => rfl) (fun kd hkd => ?_)) hL (hS_put hS e2 e3 ha)
    · funext i
      exact hu_n (fun h => hp h.1)
    · rw [hk] at hkd
      cases hkd
      refine h_ob_put hf.1 hf.2.1 q4 q2 q3 hap e1 (fun i hi => ?_)
      rw [h_V hi, h_V hi]
      by_cases e : i = j
      · subst e
        rw [if_pos rfl]
        simp [h_fv, hty, md, mr, hu]
      · rw [if_neg e]
        simp [h_fv, md, mr, hu, e]
theorem wp_putFR {idx a c j q : Nat} (hat : h_at k pc = some (.putfield idx, 3)) (hf : h_fl k idx c j) (hty : (hTy c j).isReference = true) (hfin : (hCT c j).2.2.2 = true) (hin2 : (ky k).name = "<init>") (hdecl : (hCT c j).1 = (ky k).cls) (hx : ∀ b, narrow (hTy c j) (.ref b) = .ref b ∧ fits (hTy c j) (.ref b) = true) (hk : mk M a = some (.inl c))
    (kk : Wp X k n0 z0 (pc + 3) L st (mK M, mz M, mk M, md M, hu (mr M) a j (some q)) Q) : Wp X k n0 z0 pc L (.inr (some q) :: .inr (some a) :: st) M Q :=
  by
    refine wp_go ?_ ?_ ?_ kk
    · exact Nat.le_refl _
    · exact Nat.le_refl _
    intro R p e s m args below meth cd Qf H locs ls cells slots C hcs hss ec es hW hL hS w
    have ha := h_W_ne hW hk (fun n h => by cases h)
    have hat1 := hW.2.2.2.1 a _ ha hk
    show W p (xl X) e R s m args below meth cd H locs cells slots Qf (F0 m pc ls (.ref (h_ad X q) :: .ref (h_ad X a) :: st.map (h_val X)))
    rw [h_ad_p ha]
    have hts := C.2.2.2.2.2.2.2.1
    have hKK := C.2.2.2.2.2.2.2.2.1
    have hc := hCl_at hf.1
    have hap := va_apart (own := (ky k).cls) (D := xD X) hts (hCl_in hf.1) (hTy c) (hCl_ty hf.1) (hCl_nm hf.1) hKK hc
    obtain ⟨r, h1, cell, q1, q2, q3, q4⟩ := hat1
    have hr : r = (hCN c, hCT c, hN c) := Option.some.inj (h1.symm.trans hc)
    subst hr
    obtain ⟨hSl, hfc, kC, hkC, hkind⟩ := hKK.1 c _ hc
    obtain ⟨cf, kf, fi, f, hi, hsl⟩ := hSl j hf.2.1
    have hlay := hts _ (hCl_in hf.1 _ (u_in_lay hf.2.1))
    unfold u_lay at hlay
    rw [if_pos hfin] at hlay
    have hst := (u_facts hfc hkC (u_lays hts (hCl_in hf.1) hf.2.1) hi).1
    have hcf : m.cls = cf := by
      obtain ⟨_, _, c', _, _, _, -, -, hf', -, -, -, hown2, -⟩ := Cond.laysFinal_spec hlay
      have e1 : c' = cf := by have := hi.symm.trans hf'; simp at this; exact this.1.symm
      rw [hdecl] at hown2
      rw [← e1]; exact Option.some.inj (C.2.2.2.2.2.2.1.symm.trans hown2)
    have h6 := u_fits hfc hkC hkind (Or.inr hlay) hi (hCl_ty hf.1 j hf.2.1) (hx (h_ad X q)).1 (hx (h_ad X q)).2
    refine W.putFinK C.1 C.2.1 C.2.2.2.2.2.2.1 (hts _ hf.2.2) hi hst hcf (C.2.2.2.2.2.1 hin2) (by rw [q2]; exact h6) q1 q3 (by rw [hsl]; exact k2_hasslot (q4 j hf.2.1)) rfl rfl (h_dec C.2.2.2.2.2.2.2.2.2.2.2.2.1 hat) fun H' e1 e2 e3 => ?_
    rw [hsl] at e1 ⊢
    refine w H' _ ls cells slots ec es (h_W_put (a := a) hW e2 e3 ha rfl rfl (fun p hp => rfl) (fun p hp => ?_) (fun kd hkd => ?_)) hL (hS_put hS e2 e3 ha)
    · funext i
      exact hu_n (fun h => hp h.1)
    · rw [hk] at hkd
      cases hkd
      refine h_ob_put hf.1 hf.2.1 q4 q2 q3 hap e1 (fun i hi => ?_)
      rw [h_V hi, h_V hi]
      by_cases e : i = j
      · subst e
        rw [if_pos rfl]
        simp [h_fv, hty, md, mr, hu, va_rf]
      · rw [if_neg e]
        simp [h_fv, md, mr, hu, e]
end MEM
