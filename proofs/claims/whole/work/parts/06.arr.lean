/-! ARRAYS, NEW CELLS -/
section ARR
variable {X : hX} {k : hMI} {n0 z0 pc : Nat} {L : List (Option hV)} {st : List hV} {M : hM} {Q : Option hV → hM → Prop}
theorem h_ix {j n : Nat} (hj : j < n) (hn : n < 2147483648) : vp_in (nI j) n := vp_in_nI hj (by omega)
theorem wp_iald {a j n : Nat} {i : Int32} (hat : h_at k pc = some (.iaload, 1)) (hk : mk M a = some (.inr (.inl (.int, n)))) (hi : i = nI j) (hj : j < n) (hn : n < 2147483648) (kk : Wp X k n0 z0 (pc + 1) L (.inl (md M a j) :: st) M Q) : Wp X k n0 z0 pc L (.inl i :: .inr (some a) :: st) M Q :=
  wp_st (fun R p e s m args below meth cd Qf H locs ls cells slots C _ _ hW hL hS w => by
    subst hi
    have hcl : (nI j).toNatClampNeg = j := nI_clamp (by omega)
    have hin := h_ix hj hn
    have w' : W p (xl X) e R s m args below meth cd H locs cells slots Qf (F0 m (pc + 1) ls (.int (md M a (nI j).toNatClampNeg) :: st.map (h_val X))) := by rw [hcl]; exact w
    show W p (xl X) e R s m args below meth cd H locs cells slots Qf (F0 m pc ls (.int (nI j) :: .ref (h_ad X a) :: st.map (h_val X)))
    by_cases ha : a = 0
    · subst ha
      obtain ⟨h1, h2, h3, -, n', h5, h6⟩ := hW
      rw [hk] at h5
      cases h5
      exact va_sld (A := xF X) (H0 := H) C.1 C.2.1 h6 (by rw [h1]; omega) (by show ¬ (xo X + 1 ≤ xb X); omega) ⟨Nat.le_refl _, fun _ _ _ => rfl, hS.2.2⟩ hin (h_dec C.2.2.2.2.2.2.2.2.2.2.2.2.1 hat) w'
    · have hP := h_P1 (hW.2.2.2.1 a _ ha hk)
      rw [h_ad_p ha]
      exact va_iald C.1 C.2.1 C.2.2.2.2.2.2.2.2.1 hP 0 0 rfl rfl hin (h_dec C.2.2.2.2.2.2.2.2.2.2.2.2.1 hat) w') kk
theorem wp_alen {a n : Nat} (hat : h_at k pc = some (.arraylength, 1)) (hk : mk M 0 = some (.inr (.inl (.int, n)))) (kk : Wp X k n0 z0 (pc + 1) L (.inl (nI n) :: st) M Q) : Wp X k n0 z0 pc L (.inr (some 0) :: st) M Q :=
  wp_st (fun R p e s m args below meth cd Qf H locs ls cells slots C _ _ hW hL hS w => by
    obtain ⟨h1, h2, h3, -, n', h5, h6⟩ := hW
    rw [hk] at h5
    cases h5
    exact va_slen (b := xb X) (A := xF X) (H0 := H) C.1 C.2.1 h6 (by rw [h1]; omega) (by show ¬ (xo X + 1 ≤ xb X); omega) ⟨Nat.le_refl _, fun _ _ _ => rfl, hS.2.2⟩ (h_dec C.2.2.2.2.2.2.2.2.2.2.2.2.1 hat) w) kk
theorem wp_zald {a j n : Nat} {i : Int32} (hat : h_at k pc = some (.baload, 1)) (hk : mk M a = some (.inr (.inl (.boolean, n)))) (hi : i = nI j) (hj : j < n) (hn : n < 2147483648) (kk : Wp X k n0 z0 (pc + 1) L (.inl (md M a j) :: st) M Q) : Wp X k n0 z0 pc L (.inl i :: .inr (some a) :: st) M Q :=
  wp_st (fun R p e s m args below meth cd Qf H locs ls cells slots C _ _ hW hL hS w => by
    subst hi
    have hcl : (nI j).toNatClampNeg = j := nI_clamp (by omega)
    have w' : W p (xl X) e R s m args below meth cd H locs cells slots Qf (F0 m (pc + 1) ls (.int (md M a (nI j).toNatClampNeg) :: st.map (h_val X))) := by rw [hcl]; exact w
    have ha := h_W_ne hW hk (fun n h => by cases h)
    have hP := h_P1 (hW.2.2.2.1 a _ ha hk)
    show W p (xl X) e R s m args below meth cd H locs cells slots Qf (F0 m pc ls (.int (nI j) :: .ref (h_ad X a) :: st.map (h_val X)))
    rw [h_ad_p ha]
    exact va_zald C.1 C.2.1 C.2.2.2.2.2.2.2.2.1 hP 0 1 rfl rfl (h_ix hj hn) (h_dec C.2.2.2.2.2.2.2.2.2.2.2.2.1 hat) w') kk
theorem wp_aald {a j n q t0 : Nat} {C0 : String} {i : Int32} (hat : h_at k pc = some (.aaload, 1)) (hk : mk M a = some (.inr (.inr (.object C0, n)))) (ht : hAT[t0]? = some (.object C0)) (hi : i = nI j) (hj : j < n) (hn : n < 2147483648) (hq : mr M a j = some q) (kk : Wp X k n0 z0 (pc + 1) L (.inr (some q) :: st) M Q) : Wp X k n0 z0 pc L (.inl i :: .inr (some a) :: st) M Q :=
  wp_st (fun R p e s m args below meth cd Qf H locs ls cells slots C _ _ hW hL hS w => by
    subst hi
    have hcl : (nI j).toNatClampNeg = j := nI_clamp (by omega)
    have w' : W p (xl X) e R s m args below meth cd H locs cells slots Qf (F0 m (pc + 1) ls (va_rf ((mr M a (nI j).toNatClampNeg).map (h_ad X)) :: st.map (h_val X))) := by rw [hcl, hq]; exact w
    have ha := h_W_ne hW hk (fun n h => by cases h)
    have hP := h_P1 (hW.2.2.2.1 a _ ha hk)
    show W p (xl X) e R s m args below meth cd H locs cells slots Qf (F0 m pc ls (.int (nI j) :: .ref (h_ad X a) :: st.map (h_val X)))
    rw [h_ad_p ha]
    exact va_aldq (C := C0) C.1 C.2.1 C.2.2.2.2.2.2.2.2.1 hP 0 t0 rfl (by simp [h_tys, ht]) (h_ix hj hn) (h_dec C.2.2.2.2.2.2.2.2.2.2.2.2.1 hat) w') kk
theorem wp_iast {a j n : Nat} {i x : Int32} (hat : h_at k pc = some (.iastore, 1)) (hk : mk M a = some (.inr (.inl (.int, n)))) (ha : a ≠ 0) (hi : i = nI j) (hj : j < n) (hn : n < 2147483648) (kk : Wp X k n0 z0 (pc + 1) L st (mK M, mz M, mk M, hu (md M) a j x, mr M) Q) : Wp X k n0 z0 pc L (.inl x :: .inl i :: .inr (some a) :: st) M Q := by
  refine wp_go ?_ ?_ ?_ kk
  · exact Nat.le_refl _
  · exact Nat.le_refl _
  intro R p e s m args below meth cd Qf H locs ls cells slots C hcs hss ec es hW hL hS w
  subst hi
  have hcl : (nI j).toNatClampNeg = j := nI_clamp (by omega)
  have hin := h_ix hj hn
  have hP := hW.2.2.2.1 a _ ha hk
  show W p (xl X) e R s m args below meth cd H locs cells slots Qf (F0 m pc ls (.int x :: .int (nI j) :: .ref (h_ad X a) :: st.map (h_val X)))
  rw [h_ad_p ha]
  refine W.iast C.1 C.2.1 hP ((C.2.2.2.2.2.2.2.2.1.2 0 _ rfl).1 n (fun j => .int (md M a j))) (fun q => by cases q) (by show ¬ (nI j < 0 ∨ (arrV _ _ _).slots.size ≤ _); rw [arrV_size]; exact hin) rfl rfl (h_dec C.2.2.2.2.2.2.2.2.2.2.2.2.1 hat) fun H1 e1 z oq => ?_
  refine w H1 _ ls cells slots ec es (h_W_put (a := a) hW z oq ha rfl rfl (fun p hp => ?_) (fun p hp => rfl) (fun kd hkd => ?_)) hL (hS_put hS z oq ha)
  · funext i
    exact hu_n (fun h => hp h.1)
  · rw [hk] at hkd
    cases hkd
    show H1[xo X + a]? = some (vp_cell _ _)
    rw [e1]
    show some ((vp_cell _ _).setSlot _ _) = _
    rw [vp_cell_i, vp_cell_i, arrV_store]
    congr 2
    funext q
    rw [hcl]
    by_cases hq : q = j
    · subst hq
      simp [updV, md, mr, hu]
    · simp [updV, md, mr, hu, hq]
theorem wp_zast {a j n : Nat} {i x : Int32} (hat : h_at k pc = some (.bastore, 1)) (hk : mk M a = some (.inr (.inl (.boolean, n)))) (hi : i = nI j) (hj : j < n) (hn : n < 2147483648) (hx : narrow .boolean (.int x) = .int x) (kk : Wp X k n0 z0 (pc + 1) L st (mK M, mz M, mk M, hu (md M) a j x, mr M) Q) : Wp X k n0 z0 pc L (.inl x :: .inl i :: .inr (some a) :: st) M Q := by
  refine wp_go ?_ ?_ ?_ kk
  · exact Nat.le_refl _
  · exact Nat.le_refl _
  intro R p e s m args below meth cd Qf H locs ls cells slots C hcs hss ec es hW hL hS w
  subst hi
  have hcl : (nI j).toNatClampNeg = j := nI_clamp (by omega)
  have hin := h_ix hj hn
  have ha := h_W_ne hW hk (fun n h => by cases h)
  have hP := hW.2.2.2.1 a _ ha hk
  show W p (xl X) e R s m args below meth cd H locs cells slots Qf (F0 m pc ls (.int x :: .int (nI j) :: .ref (h_ad X a) :: st.map (h_val X)))
  rw [h_ad_p ha]
  refine W.zast C.1 C.2.1 hP ((C.2.2.2.2.2.2.2.2.1.2 1 _ rfl).1 n (fun j => .int (md M a j))) (fun q => by cases q) (by show ¬ (nI j < 0 ∨ (arrV _ _ _).slots.size ≤ _); rw [arrV_size]; exact hin) rfl rfl (h_dec C.2.2.2.2.2.2.2.2.2.2.2.2.1 hat) fun H1 e1 z oq => ?_
  refine w H1 _ ls cells slots ec es (h_W_put (a := a) hW z oq ha rfl rfl (fun p hp => ?_) (fun p hp => rfl) (fun kd hkd => ?_)) hL (hS_put hS z oq ha)
  · funext i
    exact hu_n (fun h => hp h.1)
  · rw [hk] at hkd
    cases hkd
    show H1[xo X + a]? = some (vp_cell _ _)
    rw [e1, hx]
    show some ((vp_cell _ _).setSlot _ _) = _
    rw [vp_cell_i, vp_cell_i, arrV_store]
    congr 2
    funext q
    rw [hcl]
    by_cases hq : q = j
    · subst hq
      simp [updV, md, mr, hu]
    · simp [updV, md, mr, hu, hq]
theorem wp_aast {a j n v t0 c : Nat} {i : Int32} (hat : h_at k pc = some (.aastore, 1)) (hk : mk M a = some (.inr (.inr (.object (hCN c), n)))) (hv : mk M v = some (.inl c)) (hc : c < 7) (ht : hAT[t0]? = some (.object (hCN c))) (hi : i = nI j) (hj : j < n) (hn : n < 2147483648) (kk : Wp X k n0 z0 (pc + 1) L st (mK M, mz M, mk M, md M, hu (mr M) a j (some v)) Q) : Wp X k n0 z0 pc L (.inr (some v) :: .inl i :: .inr (some a) :: st) M Q := by
  refine wp_go ?_ ?_ ?_ kk
  · exact Nat.le_refl _
  · exact Nat.le_refl _
  intro R p e s m args below meth cd Qf H locs ls cells slots C hcs hss ec es hW hL hS w
  subst hi
  have hcl : (nI j).toNatClampNeg = j := nI_clamp (by omega)
  have hin := h_ix hj hn
  have ha := h_W_ne hW hk (fun n h => by cases h)
  have hv0 := h_W_ne hW hv (fun n h => by cases h)
  have hP := hW.2.2.2.1 a _ ha hk
  have hPv := hW.2.2.2.1 v _ hv0 hv
  show W p (xl X) e R s m args below meth cd H locs cells slots Qf (F0 m pc ls (.ref (h_ad X v) :: .int (nI j) :: .ref (h_ad X a) :: st.map (h_val X)))
  rw [h_ad_p ha, h_ad_p hv0]
  have hKK := C.2.2.2.2.2.2.2.2.1
  obtain ⟨r', hr', cellV, g1, g2, g3, -⟩ := hPv
  have hcls := (hKK.1 c _ (hCl_at hc)).2
  have htt : (h_tys X)[t0]? = some (xA X (.object (hCN c)), .object (hCN c)) := by simp [h_tys, ht]
  obtain ⟨kA, comp, k1, k2, k3, -⟩ := (hKK.2 t0 _ htt).2
  have hcomp : comp = (xD X).1 c := Option.some.inj (k3.symm.trans hcls.1)
  subst hcomp
  obtain ⟨kC, hkC, -⟩ := hcls.2
  have hlt : (nI j).toNatClampNeg < n := by rw [hcl]; exact hj
  refine W.aast C.1 C.2.1 hP (fun q h => by cases h) (fun h => by cases h) k1 k2 rfl hkC ⟨nI_pos (by omega), by show _ < (arrV _ _ _).slots.size; rw [arrV_size]; exact hlt⟩ g1 (fun q h => by rw [g3] at h; cases h) (by rw [g2]; exact hkC) (by rw [g2]; exact va_assign hcls) rfl rfl (h_dec C.2.2.2.2.2.2.2.2.2.2.2.2.1 hat) fun H1 e1 z oq => ?_
  refine w H1 _ ls cells slots ec es (h_W_put (a := a) hW z oq ha rfl rfl (fun p hp => rfl) (fun p hp => ?_) (fun kd hkd => ?_)) hL (hS_put hS z oq ha)
  · funext i
    exact hu_n (fun h => hp h.1)
  · rw [hk] at hkd
    cases hkd
    show H1[xo X + a]? = some (vp_cell _ _)
    rw [e1]
    show some ((vp_cell _ _).setSlot _ _) = _
    rw [vp_cell_q, vp_cell_q, arrV_store]
    congr 2
    funext q
    rw [hcl]
    by_cases hq : q = j
    · subst hq
      simp [updV, md, mr, hu, va_rf, h_ad_p hv0]
    · simp [updV, md, mr, hu, hq]
/-- memory with one more cell -/
def h_new (M : hM) (kd : hK) (n : Nat) : hM := (mK M + 1, mz M + n, hu1 (mk M) (mK M) (some kd), (fun q i => if q = mK M then 0 else md M q i), (fun q i => if q = mK M then none else mr M q i))
theorem h_W_new {U : State} {H H' : Heap} {kd : hK} {n : Nat} (hW : h_W X M U H) (z : H'.size = H.size + 1) (oq : ∀ q : Nat, q < H.size → H'[q]? = H[q]?) (hn : va_at (xD X) hCl (xo X + mK M, h_cell X (h_new M kd n) (mK M) kd) H') : h_W X (h_new M kd n) U H' := by
  obtain ⟨h1, h2, h3, h4, n', h5, h6⟩ := hW
  have ed : ∀ p, p ≠ mK M → md (h_new M kd n) p = md M p := fun p hp => by
    funext i
    show (if p = mK M then 0 else md M p i) = _
    rw [if_neg hp]
  have er : ∀ p, p ≠ mK M → mr (h_new M kd n) p = mr M p := fun p hp => by
    funext i
    show (if p = mK M then none else mr M p i) = _
    rw [if_neg hp]
  refine ⟨by rw [z, h1]; show _ = xo X + (mK M + 1); omega, by show 1 ≤ mK M + 1; omega, h3, fun p kd' hp hk => ?_, n', ?_, ?_⟩
  · by_cases e : p = mK M
    · subst e
      have hk2 : hu1 (mk M) (mK M) (some kd) (mK M) = some kd' := hk
      rw [hu1_s] at hk2
      cases hk2
      exact hn
    · have hk2 : hu1 (mk M) (mK M) (some kd) p = some kd' := hk
      rw [hu1_n e] at hk2
      have h := h4 p kd' hp hk2
      have hlt := h.lt
      have hc : h_cell X (h_new M kd n) p kd' = h_cell X M p kd' := by
        rcases kd' with c | ⟨ty, n9⟩ | ⟨ty, n9⟩
        · simp only [h_cell, h_fs]
          have hff : h_fv X (h_new M kd n) p c = h_fv X M p c := by
            funext x
            simp only [h_fv, ed p e, er p e]
          rw [hff]
        · simp only [h_cell, ed p e]
        · simp only [h_cell, er p e]
      rw [hc]
      exact h.kept (oq _ hlt)
  · show hu1 (mk M) (mK M) (some kd) 0 = _
    rw [hu1_n (by omega)]
    exact h5
  · rw [ed 0 (by omega)]
    exact h6.kept (oq _ (by rw [h1]; omega))
theorem hS_new {s : State} {H H' : Heap} {locs : List Loc} (h : va_S (xF X) s.heap H locs) (z : H'.size = H.size + 1) (oq : ∀ q : Nat, q < H.size → H'[q]? = H[q]?) : va_S (xF X) s.heap H' locs :=
  ⟨Nat.le_trans h.1 (by omega), fun q h1 h2 => (oq q (Nat.lt_of_lt_of_le h1 h.1)).trans (h.2.1 q h1 h2), h.2.2⟩
def h_cnc (own : String) (idx c : Nat) : Prop := c < 7 ∧ Cond.classLink own idx (hCN c) ∈ h_tbl ∧ Cond.instantiable (hCN c) (hN c) ∈ h_tbl ∧ Cond.initialized (hCN c) ∈ h_tbl
abbrev h_cn (k : hMI) (idx c : Nat) : Prop := h_cnc (ky k).cls idx c
theorem h_dflt (c : Nat) (X : hX) (M : hM) (n : Nat) : ∀ j, j < hN c → c < 7 → defaultValue (hTy c j) = h_fv X (h_new M (.inl c) n) (mK M) c j := by
  intro j hj hc
  have hr : mr (h_new M (.inl c) n) (mK M) j = none := by show (if mK M = mK M then none else _) = _; rw [if_pos rfl]
  have hd : md (h_new M (.inl c) n) (mK M) j = 0 := by show (if mK M = mK M then (0 : Int32) else _) = _; rw [if_pos rfl]
  simp only [h_fv, hr, hd]
  have hall : ∀ c, c < 7 → ∀ j, j < 26 → j < hN c → defaultValue (hTy c j) = if (hTy c j).isReference = true then Value.null else Value.int 0 := by decide +kernel
  have h26 : j < 26 := by
    have : hN c ≤ 26 := by
      rcases (show c = 0 ∨ c = 1 ∨ c = 2 ∨ c = 3 ∨ c = 4 ∨ c = 5 ∨ c = 6 by omega) with rfl | rfl | rfl | rfl | rfl | rfl | rfl <;> decide
    omega
  exact hall c hc j h26 hj
theorem wp_new {idx c : Nat} (hat : h_at k pc = some (.new idx, 3)) (hf : h_cn k idx c) (kk : Wp X k n0 z0 (pc + 3) L (.inr (some (mK M)) :: st) (h_new M (.inl c) (hN c)) Q) : Wp X k n0 z0 pc L st M Q := by
  refine wp_go ?_ ?_ ?_ kk
  · show mK M ≤ mK M + 1; omega
  · show mz M ≤ mz M + hN c; omega
  intro R p e s m args below meth cd Qf H locs ls cells slots C hcs hss ec es hW hL hS w
  have hts := C.2.2.2.2.2.2.2.1
  have hKn := C.2.2.2.2.2.2.2.2.1.1 c _ (hCl_at hf.1)
  have hcs' : mK M + 1 ≤ n0 + R.cells := hcs
  have hss' : mz M + hN c ≤ z0 + R.slots := hss
  refine W.newcK C.1 C.2.1 C.2.2.2.2.2.2.1 (hts _ hf.2.1) (hts _ hf.2.2.1) (hts _ hf.2.2.2) rfl (h_dec C.2.2.2.2.2.2.2.2.2.2.2.2.1 hat) (by omega) (by omega) hKn.2.1 rfl fun H1 kC hkC e1 z1 o1 => ?_
  have hsz : H.size = xo X + mK M := hW.1
  have hnn : mK M ≠ 0 := by have := hW.2.1; omega
  have hw := w H1 locs ls (cells + 1) (slots + hN c) (by show _ = mK M + 1; omega) (by show _ = mz M + hN c; omega) (h_W_new hW z1 o1 ?_) hL (hS_new hS z1 o1)
  · rw [hsz]
    have hv : h_val X (.inr (some (mK M))) = .ref (xo X + mK M) := by show Value.ref (h_ad X (mK M)) = _; rw [h_ad_p hnn]
    rw [List.map_cons, hv] at hw
    exact hw
  · refine ⟨_, hCl_at hf.1, ?_⟩
    rw [← hsz]
    refine (u_born (hTy c) hts (hCl_in hf.1) hKn hkC e1 (hCl_ty hf.1)).to (fun j hj => ?_)
    rw [h_V hj]
    exact h_dflt c X M (hN c) j hj hf.1
theorem wp_newa {n t0 : Nat} {i : Int32} {aty : ArrayType} {ty : FieldType} (hat : h_at k pc = some (.newarray aty, 2)) (hty : newarray.typeOf aty = ty) (ht : hAT[t0]? = some ty) (hp : ty = .int ∨ ty = .boolean) (harr : Cond.arrayClass ty ∈ h_tbl) (hi : i = nI n) (hn : n < 100000) (kk : Wp X k n0 z0 (pc + 2) L (.inr (some (mK M)) :: st) (h_new M (.inr (.inl (ty, n))) n) Q) : Wp X k n0 z0 pc L (.inl i :: st) M Q := by
  refine wp_go ?_ ?_ ?_ kk
  · show mK M ≤ mK M + 1; omega
  · show mz M ≤ mz M + n; omega
  intro R p e s m args below meth cd Qf H locs ls cells slots C hcs hss ec es hW hL hS w
  have hts := C.2.2.2.2.2.2.2.1
  subst hi
  have hcl : (nI n).toNatClampNeg = n := nI_clamp (by omega)
  have hcs' : mK M + 1 ≤ n0 + R.cells := hcs
  have hss' : mz M + n ≤ z0 + R.slots := hss
  have hcb : componentBytes ty ≤ 8 := by rcases hp with rfl | rfl <;> decide
  refine va_newaK C.1 C.2.1 (by rw [hty]; exact hts _ harr) rfl (h_dec C.2.2.2.2.2.2.2.2.2.2.2.2.1 hat) rfl (nI_pos (by omega)) hcl (by rw [hty]; exact Nat.le_trans (Nat.mul_le_mul (Nat.le_of_lt hn) hcb) (by decide)) (by omega) (by omega) rfl fun H1 cA e1 z1 o1 hAr hNm => ?_
  rw [hty] at e1 hNm
  have hsz : H.size = xo X + mK M := hW.1
  have hnn : mK M ≠ 0 := by have := hW.2.1; omega
  have htt : (h_tys X)[t0]? = some (xA X ty, ty) := by simp [h_tys, ht]
  have hRA := (C.2.2.2.2.2.2.2.2.1.2 t0 _ htt).2
  have hcA : cA = xA X ty := by
    rcases hp with rfl | rfl
    · exact Option.some.inj (hNm.symm.trans hRA)
    · exact Option.some.inj (hNm.symm.trans hRA)
  have hw := w H1 locs ls (cells + 1) (slots + n) (by show _ = mK M + 1; omega) (by show _ = mz M + n; omega) (h_W_new hW z1 o1 ?_) hL (hS_new hS z1 o1)
  · rw [hsz]
    have hv : h_val X (.inr (some (mK M))) = .ref (xo X + mK M) := by show Value.ref (h_ad X (mK M)) = _; rw [h_ad_p hnn]
    rw [List.map_cons, hv] at hw
    exact hw
  · show H1[xo X + mK M]? = some (vp_cell (xA X ty) (n, .inl (md (h_new M (.inr (.inl (ty, n))) n) (mK M))))
    rw [← hsz, e1, hcA, vp_cell_i]
    congr 2
    funext q
    have hd : md (h_new M (.inr (.inl (ty, n))) n) (mK M) q = 0 := by show (if mK M = mK M then (0 : Int32) else _) = _; rw [if_pos rfl]
    rw [hd]
    rcases hp with rfl | rfl <;> rfl
theorem wp_anew {n t0 idx : Nat} {i : Int32} {C0 : String} (hat : h_at k pc = some (.anewarray idx, 3)) (ht : hAT[t0]? = some (.object C0)) (hl : Cond.classLink (ky k).cls idx C0 ∈ h_tbl) (ho : ∀ U, h_ex U → va_AO C0 U) (hi : i = nI n) (hn : n < 100000) (kk : Wp X k n0 z0 (pc + 3) L (.inr (some (mK M)) :: st) (h_new M (.inr (.inr (.object C0, n))) n) Q) : Wp X k n0 z0 pc L (.inl i :: st) M Q := by
  refine wp_go ?_ ?_ ?_ kk
  · show mK M ≤ mK M + 1; omega
  · show mz M ≤ mz M + n; omega
  intro R p e s m args below meth cd Qf H locs ls cells slots C hcs hss ec es hW hL hS w
  have hts := C.2.2.2.2.2.2.2.1
  subst hi
  have hcl : (nI n).toNatClampNeg = n := nI_clamp (by omega)
  have hcs' : mK M + 1 ≤ n0 + R.cells := hcs
  have hss' : mz M + n ≤ z0 + R.slots := hss
  refine W.anew (C := C0) C.1 C.2.1 C.2.2.2.2.2.2.1 (hts _ hl) (ho s C.2.2.2.2.2.2.2.2.2.2.2.2.2).use rfl (h_dec C.2.2.2.2.2.2.2.2.2.2.2.2.1 hat) rfl (nI_pos (by omega)) (by rw [hcl]; omega) (by omega) (by rw [hcl]; omega) fun cA kA comp f1 f2 f3 f4 => ?_
  rw [hcl]
  generalize hH1 : H.push ({ cls := cA, slots := Array.replicate n .null, vm := .none } : Cell) = H1
  have z1 : H1.size = H.size + 1 := by rw [← hH1, Array.size_push]
  have e1 : H1[H.size]? = some (arrV cA n (fun _ => .null)) := by rw [← hH1, Array.getElem?_push_size, ← arrV_new]
  have o1 : ∀ q : Nat, q < H.size → H1[q]? = H[q]? := fun q hq => by rw [← hH1, Array.getElem?_push, if_neg (Nat.ne_of_lt hq)]
  have hsz : H.size = xo X + mK M := hW.1
  have hnn : mK M ≠ 0 := by have := hW.2.1; omega
  have htt : (h_tys X)[t0]? = some (xA X (.object C0), .object C0) := by simp [h_tys, ht]
  obtain ⟨kA', comp', -, -, -, k4⟩ := (C.2.2.2.2.2.2.2.2.1.2 t0 _ htt).2
  have hcA : cA = xA X (.object C0) := Option.some.inj (f1.symm.trans k4)
  have hw := w H1 locs ls (cells + 1) (slots + n) (by show _ = mK M + 1; omega) (by show _ = mz M + n; omega) (h_W_new hW z1 o1 ?_) hL (hS_new hS z1 o1)
  · rw [hsz]
    have hv : h_val X (.inr (some (mK M))) = .ref (xo X + mK M) := by show Value.ref (h_ad X (mK M)) = _; rw [h_ad_p hnn]
    rw [List.map_cons, hv] at hw
    exact hw
  · show H1[xo X + mK M]? = some (vp_cell (xA X (.object C0)) (n, .inr (.inr (.inr (.inr (fun j => (mr (h_new M (.inr (.inr (.object C0, n))) n) (mK M) j).map (h_ad X)))))))
    rw [← hsz, e1, hcA, vp_cell_q]
    congr 2
    funext q
    have hd : mr (h_new M (.inr (.inr (.object C0, n))) n) (mK M) q = none := by show (if mK M = mK M then none else _) = _; rw [if_pos rfl]
    rw [hd]
    rfl
end ARR
