/-! STEPS: a lemma an instruction, goal first -/
section STEPS
variable {X : hX} {k : hMI} {n0 z0 pc : Nat} {L : List (Option hV)} {st : List hV} {M : hM} {Q : Option hV → hM → Prop}
theorem wp_iconst {n : Int} {v : Int32} (hat : h_at k pc = some (.iconst n, 1)) (hv : Int32.ofInt n = v) (kk : Wp X k n0 z0 (pc + 1) L (.inl v :: st) M Q) : Wp X k n0 z0 pc L st M Q :=
  wp_st (fun R p e s m args below meth c Qf H locs ls cells slots C _ _ hW hL hS w => lv_iconst C.1 C.2.1 (h_dec C.2.2.2.2.2.2.2.2.2.2.2.2.1 hat) hv w) kk
theorem wp_bipush {n : Int} {v : Int32} (hat : h_at k pc = some (.bipush n, 2)) (hv : (Int8.ofInt n).toInt32 = v) (kk : Wp X k n0 z0 (pc + 2) L (.inl v :: st) M Q) : Wp X k n0 z0 pc L st M Q :=
  wp_st (fun R p e s m args below meth c Qf H locs ls cells slots C _ _ hW hL hS w => lv_bipush C.1 C.2.1 (h_dec C.2.2.2.2.2.2.2.2.2.2.2.2.1 hat) hv w) kk
theorem wp_sipush {n : Int} {v : Int32} (hat : h_at k pc = some (.sipush n, 3)) (hv : (Int16.ofInt n).toInt32 = v) (kk : Wp X k n0 z0 (pc + 3) L (.inl v :: st) M Q) : Wp X k n0 z0 pc L st M Q :=
  wp_st (fun R p e s m args below meth c Qf H locs ls cells slots C _ _ hW hL hS w => lv_sipush C.1 C.2.1 (h_dec C.2.2.2.2.2.2.2.2.2.2.2.2.1 hat) hv w) kk
theorem wp_iload_n {i : Fin 4} {x : Int32} (hat : h_at k pc = some (.iload_n i, 1)) (hl : L[(i : Nat)]? = some (some (.inl x))) (kk : Wp X k n0 z0 (pc + 1) L (.inl x :: st) M Q) : Wp X k n0 z0 pc L st M Q :=
  wp_st (fun R p e s m args below meth c Qf H locs ls cells slots C _ _ hW hL hS w => lv_iload_n C.1 C.2.1 (h_dec C.2.2.2.2.2.2.2.2.2.2.2.2.1 hat) rfl (hL.2.2.2 _ _ hl) w) kk
theorem wp_iload {i : Nat} {x : Int32} (hat : h_at k pc = some (.iload i, 2)) (hl : L[i]? = some (some (.inl x))) (kk : Wp X k n0 z0 (pc + 2) L (.inl x :: st) M Q) : Wp X k n0 z0 pc L st M Q :=
  wp_st (fun R p e s m args below meth c Qf H locs ls cells slots C _ _ hW hL hS w => lv_iload C.1 C.2.1 (h_dec C.2.2.2.2.2.2.2.2.2.2.2.2.1 hat) (hL.2.2.2 _ _ hl) w) kk
theorem wp_aload_n {i : Fin 4} {a : Nat} (hat : h_at k pc = some (.aload_n i, 1)) (hl : L[(i : Nat)]? = some (some (.inr (some a)))) (kk : Wp X k n0 z0 (pc + 1) L (.inr (some a) :: st) M Q) : Wp X k n0 z0 pc L st M Q :=
  wp_st (fun R p e s m args below meth c Qf H locs ls cells slots C _ _ hW hL hS w => lv_aload_n C.1 C.2.1 (h_dec C.2.2.2.2.2.2.2.2.2.2.2.2.1 hat) rfl (hL.2.2.2 _ _ hl) w) kk
theorem wp_aload {i a : Nat} (hat : h_at k pc = some (.aload i, 2)) (hl : L[i]? = some (some (.inr (some a)))) (kk : Wp X k n0 z0 (pc + 2) L (.inr (some a) :: st) M Q) : Wp X k n0 z0 pc L st M Q :=
  wp_st (fun R p e s m args below meth c Qf H locs ls cells slots C _ _ hW hL hS w => lv_aload C.1 C.2.1 (h_dec C.2.2.2.2.2.2.2.2.2.2.2.2.1 hat) (hL.2.2.2 _ _ hl) w) kk
theorem wp_istore_n {i : Fin 4} {x : Int32} (hat : h_at k pc = some (.istore_n i, 1)) (hi : (i : Nat) < kml k) (kk : Wp X k n0 z0 (pc + 1) (L.set i (some (.inl x))) st M Q) : Wp X k n0 z0 pc L (.inl x :: st) M Q :=
  wp_lo (fun R p e s m args below meth c Qf H locs ls cells slots C hL w => lv_istore_n C.1 C.2.1 (h_dec C.2.2.2.2.2.2.2.2.2.2.2.2.1 hat) rfl (h_L_has hL) hi rfl (fun ls' hl' => w ls' (h_L_set (v := .inl x) hL hi hl'))) kk
theorem wp_istore {i : Nat} {x : Int32} (hat : h_at k pc = some (.istore i, 2)) (hi : i < kml k) (kk : Wp X k n0 z0 (pc + 2) (L.set i (some (.inl x))) st M Q) : Wp X k n0 z0 pc L (.inl x :: st) M Q :=
  wp_lo (fun R p e s m args below meth c Qf H locs ls cells slots C hL w => lv_istore C.1 C.2.1 (h_dec C.2.2.2.2.2.2.2.2.2.2.2.2.1 hat) (h_L_has hL) hi rfl (fun ls' hl' => w ls' (h_L_set (v := .inl x) hL hi hl'))) kk
theorem wp_astore_n {i : Fin 4} {a : Nat} (hat : h_at k pc = some (.astore_n i, 1)) (hi : (i : Nat) < kml k) (kk : Wp X k n0 z0 (pc + 1) (L.set i (some (.inr (some a)))) st M Q) : Wp X k n0 z0 pc L (.inr (some a) :: st) M Q :=
  wp_lo (fun R p e s m args below meth c Qf H locs ls cells slots C hL w => lv_astore_n C.1 C.2.1 (h_dec C.2.2.2.2.2.2.2.2.2.2.2.2.1 hat) rfl (h_L_has hL) hi rfl (fun ls' hl' => w ls' (h_L_set (v := .inr (some a)) hL hi hl'))) kk
theorem wp_astore {i a : Nat} (hat : h_at k pc = some (.astore i, 2)) (hi : i < kml k) (kk : Wp X k n0 z0 (pc + 2) (L.set i (some (.inr (some a)))) st M Q) : Wp X k n0 z0 pc L (.inr (some a) :: st) M Q :=
  wp_lo (fun R p e s m args below meth c Qf H locs ls cells slots C hL w => lv_astore C.1 C.2.1 (h_dec C.2.2.2.2.2.2.2.2.2.2.2.2.1 hat) (h_L_has hL) hi rfl (fun ls' hl' => w ls' (h_L_set (v := .inr (some a)) hL hi hl'))) kk
theorem wp_iinc {i : Nat} {n : Int} {x v : Int32} (hat : h_at k pc = some (.iinc i n, 3)) (hl : L[i]? = some (some (.inl x))) (hv : x + Int32.ofInt n = v) (hi : i < kml k) (kk : Wp X k n0 z0 (pc + 3) (L.set i (some (.inl v))) st M Q) : Wp X k n0 z0 pc L st M Q :=
  wp_lo (fun R p e s m args below meth c Qf H locs ls cells slots C hL w => by
    have hm : (i, h_val X (.inl x)) ∈ ((List.range L.length).filterMap (fun i => match L[i]? with | some (some v) => some (i, h_val X v) | _ => none)) := List.mem_filterMap.mpr ⟨i, List.mem_range.mpr (List.getElem?_eq_some_iff.mp hl).1, by rw [hl]⟩
    obtain ⟨j, hj⟩ := List.getElem?_of_mem hm
    exact lv_iinc (v := v) C.1 C.2.1 (h_dec C.2.2.2.2.2.2.2.2.2.2.2.2.1 hat) (h_L_has hL) hj hv hi rfl (fun ls' hl' => w ls' (h_L_set (v := .inl v) hL hi hl'))) kk
theorem wp_iadd {x y : Int32} (hat : h_at k pc = some (.iadd, 1)) (kk : Wp X k n0 z0 (pc + 1) L (.inl (x + y) :: st) M Q) : Wp X k n0 z0 pc L (.inl y :: .inl x :: st) M Q :=
  wp_st (fun R p e s m args below meth c Qf H locs ls cells slots C _ _ hW hL hS w => lv_iadd C.1 C.2.1 (h_dec C.2.2.2.2.2.2.2.2.2.2.2.2.1 hat) w) kk
theorem wp_isub {x y : Int32} (hat : h_at k pc = some (.isub, 1)) (kk : Wp X k n0 z0 (pc + 1) L (.inl (x - y) :: st) M Q) : Wp X k n0 z0 pc L (.inl y :: .inl x :: st) M Q :=
  wp_st (fun R p e s m args below meth c Qf H locs ls cells slots C _ _ hW hL hS w => lv_isub C.1 C.2.1 (h_dec C.2.2.2.2.2.2.2.2.2.2.2.2.1 hat) w) kk
theorem wp_imul {x y : Int32} (hat : h_at k pc = some (.imul, 1)) (kk : Wp X k n0 z0 (pc + 1) L (.inl (x * y) :: st) M Q) : Wp X k n0 z0 pc L (.inl y :: .inl x :: st) M Q :=
  wp_st (fun R p e s m args below meth c Qf H locs ls cells slots C _ _ hW hL hS w => lv_imul C.1 C.2.1 (h_dec C.2.2.2.2.2.2.2.2.2.2.2.2.1 hat) w) kk
theorem wp_iand {x y : Int32} (hat : h_at k pc = some (.iand, 1)) (kk : Wp X k n0 z0 (pc + 1) L (.inl (x &&& y) :: st) M Q) : Wp X k n0 z0 pc L (.inl y :: .inl x :: st) M Q :=
  wp_st (fun R p e s m args below meth c Qf H locs ls cells slots C _ _ hW hL hS w => lv_iand C.1 C.2.1 (h_dec C.2.2.2.2.2.2.2.2.2.2.2.2.1 hat) w) kk
theorem wp_ixor {x y : Int32} (hat : h_at k pc = some (.ixor, 1)) (kk : Wp X k n0 z0 (pc + 1) L (.inl (x ^^^ y) :: st) M Q) : Wp X k n0 z0 pc L (.inl y :: .inl x :: st) M Q :=
  wp_st (fun R p e s m args below meth c Qf H locs ls cells slots C _ _ hW hL hS w => lv_ixor C.1 C.2.1 (h_dec C.2.2.2.2.2.2.2.2.2.2.2.2.1 hat) w) kk
theorem wp_idiv {x y : Int32} (hat : h_at k pc = some (.idiv, 1)) (hy : ¬ y = 0) (kk : Wp X k n0 z0 (pc + 1) L (.inl (x / y) :: st) M Q) : Wp X k n0 z0 pc L (.inl y :: .inl x :: st) M Q :=
  wp_st (fun R p e s m args below meth c Qf H locs ls cells slots C _ _ hW hL hS w => lv_idiv C.1 C.2.1 (h_dec C.2.2.2.2.2.2.2.2.2.2.2.2.1 hat) hy w) kk
theorem wp_irem {x y : Int32} (hat : h_at k pc = some (.irem, 1)) (hy : ¬ y = 0) (kk : Wp X k n0 z0 (pc + 1) L (.inl (x - x / y * y) :: st) M Q) : Wp X k n0 z0 pc L (.inl y :: .inl x :: st) M Q :=
  wp_st (fun R p e s m args below meth c Qf H locs ls cells slots C _ _ hW hL hS w => lv_irem C.1 C.2.1 (h_dec C.2.2.2.2.2.2.2.2.2.2.2.2.1 hat) hy w) kk
theorem wp_dup {v : hV} (hat : h_at k pc = some (.dup, 1)) (kk : Wp X k n0 z0 (pc + 1) L (v :: v :: st) M Q) : Wp X k n0 z0 pc L (v :: st) M Q :=
  wp_st (fun R p e s m args below meth c Qf H locs ls cells slots C _ _ hW hL hS w => lv_dup C.1 C.2.1 (h_dec C.2.2.2.2.2.2.2.2.2.2.2.2.1 hat) (h_val_cat X v) w) kk
theorem wp_dup2 {v w : hV} (hat : h_at k pc = some (.dup2, 1)) (kk : Wp X k n0 z0 (pc + 1) L (v :: w :: v :: w :: st) M Q) : Wp X k n0 z0 pc L (v :: w :: st) M Q :=
  wp_st (fun R p e s m args below meth c Qf H locs ls cells slots C _ _ hW hL hS w' => lv_dup2_11 C.1 C.2.1 (h_dec C.2.2.2.2.2.2.2.2.2.2.2.2.1 hat) (h_val_cat X v) (h_val_cat X w) w') kk
theorem wp_pop {v : hV} (hat : h_at k pc = some (.pop, 1)) (kk : Wp X k n0 z0 (pc + 1) L st M Q) : Wp X k n0 z0 pc L (v :: st) M Q :=
  wp_st (fun R p e s m args below meth c Qf H locs ls cells slots C _ _ hW hL hS w => lv_pop C.1 C.2.1 (h_dec C.2.2.2.2.2.2.2.2.2.2.2.2.1 hat) (h_val_cat X v) w) kk
theorem wp_goto {off : Int} {tgt : Nat} (hat : h_at k pc = some (.goto off, 3)) (ht : (pc : Int) + off = (tgt : Int)) (kk : Wp X k n0 z0 tgt L st M Q) : Wp X k n0 z0 pc L st M Q :=
  wp_st (fun R p e s m args below meth c Qf H locs ls cells slots C _ _ hW hL hS w => lv_goto C.1 C.2.1 (h_dec C.2.2.2.2.2.2.2.2.2.2.2.2.1 hat) ht w) kk
theorem wp_br {pc1 pc2 : Nat} {st' : List hV} {cnd : Prop}
    (go : ∀ (R : Room) (p : Program) (e : Env) (s : State) (m : MethodId) (args : Array Value) (below : List Frame) (meth : Method) (c : Code) (Qf : State → Prop) (H : Heap) (locs : List Loc) (ls : Array Slot) (cells slots : Nat),
      h_Cx X k R p s m args meth c →
      (cnd → W p (xl X) e R s m args below meth c H locs cells slots Qf (F0 m pc1 ls (st'.map (h_val X)))) → (¬ cnd → W p (xl X) e R s m args below meth c H locs cells slots Qf (F0 m pc2 ls (st'.map (h_val X)))) →
      W p (xl X) e R s m args below meth c H locs cells slots Qf (F0 m pc ls (st.map (h_val X))))
    (k1 : cnd → Wp X k n0 z0 pc1 L st' M Q) (k2 : ¬ cnd → Wp X k n0 z0 pc2 L st' M Q) : Wp X k n0 z0 pc L st M Q := by
  rcases Classical.em cnd with h | h
  · exact wp_st (fun R p e s m args below meth c Qf H locs ls cells slots C _ _ hW hL hS w => go R p e s m args below meth c Qf H locs ls cells slots C (fun _ => w) (fun q => absurd h q)) (k1 h)
  · exact wp_st (fun R p e s m args below meth c Qf H locs ls cells slots C _ _ hW hL hS w => go R p e s m args below meth c Qf H locs ls cells slots C (fun q => absurd q h) (fun _ => w)) (k2 h)
theorem wp_if_eq {x : Int32} {off : Int} {tgt : Nat} (hat : h_at k pc = some (.ifCond .eq off, 3)) (ht : (pc : Int) + off = (tgt : Int)) (k1 : x = 0 → Wp X k n0 z0 tgt L st M Q) (k2 : ¬ (x = 0) → Wp X k n0 z0 (pc + 3) L st M Q) : Wp X k n0 z0 pc L (.inl x :: st) M Q :=
  wp_br (fun R p e s m args below meth c Qf H locs ls cells slots C w1 w2 => lv_if_eq C.1 C.2.1 (h_dec C.2.2.2.2.2.2.2.2.2.2.2.2.1 hat) ht w1 w2) k1 k2
theorem wp_if_ne {x : Int32} {off : Int} {tgt : Nat} (hat : h_at k pc = some (.ifCond .ne off, 3)) (ht : (pc : Int) + off = (tgt : Int)) (k1 : ¬ x = 0 → Wp X k n0 z0 tgt L st M Q) (k2 : x = 0 → Wp X k n0 z0 (pc + 3) L st M Q) : Wp X k n0 z0 pc L (.inl x :: st) M Q :=
  wp_br (fun R p e s m args below meth c Qf H locs ls cells slots C w1 w2 => lv_if_ne C.1 C.2.1 (h_dec C.2.2.2.2.2.2.2.2.2.2.2.2.1 hat) ht w1 (fun h => w2 (fun n => n h))) k1 (fun h => k2 (Classical.not_not.mp h))
theorem wp_if_lt {x : Int32} {off : Int} {tgt : Nat} (hat : h_at k pc = some (.ifCond .lt off, 3)) (ht : (pc : Int) + off = (tgt : Int)) (k1 : x < 0 → Wp X k n0 z0 tgt L st M Q) (k2 : ¬ (x < 0) → Wp X k n0 z0 (pc + 3) L st M Q) : Wp X k n0 z0 pc L (.inl x :: st) M Q :=
  wp_br (fun R p e s m args below meth c Qf H locs ls cells slots C w1 w2 => lv_if_lt C.1 C.2.1 (h_dec C.2.2.2.2.2.2.2.2.2.2.2.2.1 hat) ht w1 w2) k1 k2
theorem wp_if_ge {x : Int32} {off : Int} {tgt : Nat} (hat : h_at k pc = some (.ifCond .ge off, 3)) (ht : (pc : Int) + off = (tgt : Int)) (k1 : 0 ≤ x → Wp X k n0 z0 tgt L st M Q) (k2 : ¬ (0 ≤ x) → Wp X k n0 z0 (pc + 3) L st M Q) : Wp X k n0 z0 pc L (.inl x :: st) M Q :=
  wp_br (fun R p e s m args below meth c Qf H locs ls cells slots C w1 w2 => lv_if_ge C.1 C.2.1 (h_dec C.2.2.2.2.2.2.2.2.2.2.2.2.1 hat) ht w1 w2) k1 k2
theorem wp_if_gt {x : Int32} {off : Int} {tgt : Nat} (hat : h_at k pc = some (.ifCond .gt off, 3)) (ht : (pc : Int) + off = (tgt : Int)) (k1 : 0 < x → Wp X k n0 z0 tgt L st M Q) (k2 : ¬ (0 < x) → Wp X k n0 z0 (pc + 3) L st M Q) : Wp X k n0 z0 pc L (.inl x :: st) M Q :=
  wp_br (fun R p e s m args below meth c Qf H locs ls cells slots C w1 w2 => lv_if_gt C.1 C.2.1 (h_dec C.2.2.2.2.2.2.2.2.2.2.2.2.1 hat) ht w1 w2) k1 k2
theorem wp_if_le {x : Int32} {off : Int} {tgt : Nat} (hat : h_at k pc = some (.ifCond .le off, 3)) (ht : (pc : Int) + off = (tgt : Int)) (k1 : x ≤ 0 → Wp X k n0 z0 tgt L st M Q) (k2 : ¬ (x ≤ 0) → Wp X k n0 z0 (pc + 3) L st M Q) : Wp X k n0 z0 pc L (.inl x :: st) M Q :=
  wp_br (fun R p e s m args below meth c Qf H locs ls cells slots C w1 w2 => lv_if_le C.1 C.2.1 (h_dec C.2.2.2.2.2.2.2.2.2.2.2.2.1 hat) ht w1 w2) k1 k2
theorem wp_icmp_eq {x y : Int32} {off : Int} {tgt : Nat} (hat : h_at k pc = some (.if_icmp .eq off, 3)) (ht : (pc : Int) + off = (tgt : Int)) (k1 : x = y → Wp X k n0 z0 tgt L st M Q) (k2 : ¬ (x = y) → Wp X k n0 z0 (pc + 3) L st M Q) : Wp X k n0 z0 pc L (.inl y :: .inl x :: st) M Q :=
  wp_br (fun R p e s m args below meth c Qf H locs ls cells slots C w1 w2 => lv_icmp_eq C.1 C.2.1 (h_dec C.2.2.2.2.2.2.2.2.2.2.2.2.1 hat) ht w1 w2) k1 k2
theorem wp_icmp_ne {x y : Int32} {off : Int} {tgt : Nat} (hat : h_at k pc = some (.if_icmp .ne off, 3)) (ht : (pc : Int) + off = (tgt : Int)) (k1 : ¬ x = y → Wp X k n0 z0 tgt L st M Q) (k2 : x = y → Wp X k n0 z0 (pc + 3) L st M Q) : Wp X k n0 z0 pc L (.inl y :: .inl x :: st) M Q :=
  wp_br (fun R p e s m args below meth c Qf H locs ls cells slots C w1 w2 => lv_icmp_ne C.1 C.2.1 (h_dec C.2.2.2.2.2.2.2.2.2.2.2.2.1 hat) ht w1 (fun h => w2 (fun n => n h))) k1 (fun h => k2 (Classical.not_not.mp h))
theorem wp_icmp_lt {x y : Int32} {off : Int} {tgt : Nat} (hat : h_at k pc = some (.if_icmp .lt off, 3)) (ht : (pc : Int) + off = (tgt : Int)) (k1 : x < y → Wp X k n0 z0 tgt L st M Q) (k2 : ¬ (x < y) → Wp X k n0 z0 (pc + 3) L st M Q) : Wp X k n0 z0 pc L (.inl y :: .inl x :: st) M Q :=
  wp_br (fun R p e s m args below meth c Qf H locs ls cells slots C w1 w2 => lv_icmp_lt C.1 C.2.1 (h_dec C.2.2.2.2.2.2.2.2.2.2.2.2.1 hat) ht w1 w2) k1 k2
theorem wp_icmp_ge {x y : Int32} {off : Int} {tgt : Nat} (hat : h_at k pc = some (.if_icmp .ge off, 3)) (ht : (pc : Int) + off = (tgt : Int)) (k1 : y ≤ x → Wp X k n0 z0 tgt L st M Q) (k2 : ¬ (y ≤ x) → Wp X k n0 z0 (pc + 3) L st M Q) : Wp X k n0 z0 pc L (.inl y :: .inl x :: st) M Q :=
  wp_br (fun R p e s m args below meth c Qf H locs ls cells slots C w1 w2 => lv_icmp_ge C.1 C.2.1 (h_dec C.2.2.2.2.2.2.2.2.2.2.2.2.1 hat) ht w1 w2) k1 k2
theorem wp_icmp_gt {x y : Int32} {off : Int} {tgt : Nat} (hat : h_at k pc = some (.if_icmp .gt off, 3)) (ht : (pc : Int) + off = (tgt : Int)) (k1 : y < x → Wp X k n0 z0 tgt L st M Q) (k2 : ¬ (y < x) → Wp X k n0 z0 (pc + 3) L st M Q) : Wp X k n0 z0 pc L (.inl y :: .inl x :: st) M Q :=
  wp_br (fun R p e s m args below meth c Qf H locs ls cells slots C w1 w2 => lv_icmp_gt C.1 C.2.1 (h_dec C.2.2.2.2.2.2.2.2.2.2.2.2.1 hat) ht w1 w2) k1 k2
theorem wp_icmp_le {x y : Int32} {off : Int} {tgt : Nat} (hat : h_at k pc = some (.if_icmp .le off, 3)) (ht : (pc : Int) + off = (tgt : Int)) (k1 : x ≤ y → Wp X k n0 z0 tgt L st M Q) (k2 : ¬ (x ≤ y) → Wp X k n0 z0 (pc + 3) L st M Q) : Wp X k n0 z0 pc L (.inl y :: .inl x :: st) M Q :=
  wp_br (fun R p e s m args below meth c Qf H locs ls cells slots C w1 w2 => lv_icmp_le C.1 C.2.1 (h_dec C.2.2.2.2.2.2.2.2.2.2.2.2.1 hat) ht w1 w2) k1 k2
end STEPS
