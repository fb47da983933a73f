theorem d_L_law_33 : decode code 33 = .ok (.aload_n 0, 1) := by decide +kernel
theorem d_L_law_34 : decode code 34 = .ok (.iload 4, 2) := by decide +kernel
theorem d_L_law_36 : decode code 36 = .ok (.iaload, 1) := by decide +kernel
theorem d_L_law_37 : decode code 37 = .ok (.bipush 15, 2) := by decide +kernel
theorem d_L_law_39 : decode code 39 = .ok (.iand, 1) := by decide +kernel
theorem d_L_law_40 : decode code 40 = .ok (.tableswitch 1152 0 14 #[76, 160, 256, 324, 349, 421, 525, 581, 649, 717, 785, 865, 945, 1102, 1127], 76) := by decide +kernel

set_option maxHeartbeats 4000000 in
set_option maxRecDepth 100000 in
theorem whole_start {p : Program} {e : Env} {s : State} {m : MethodId} {below : List Frame} {meth : Method} {cx : Code} (l : Launch) (hl9 : l.stackTraces = false) {b L : Nat} {xs : Nat → Int32} (hL : L ≤ 7) (C0 : lw_At p s m meth cx b L xs) : W p l e room_1 s m #[Value.ref b] below meth cx s.heap [] 0 0 (lw_Z below #[Value.ref b] s) (entryFrame m ([Value.ref b] : List Value).toArray 8) := by
  obtain ⟨hx, hb, hr, hml, hown0, hts0, hX, hbl, hlocks, hgv⟩ := id C0
  have hown : s.vm.findClass "MapFramerLaw" = some m.cls := hown0
  have hts : ∀ w ∈ bigW, w.before #[Value.ref b] s = true := fun w h => hts0 w (List.mem_filter.mp h).1
  have hsub : ∀ w ∈ bigW, w ∈ bigW := fun _ h => h
  have hA : ∀ q : Nat, s.heap.size ≤ q → (fun q : Nat => s.heap.size ≤ q) q := fun _ h => h
  have hbA : ¬ (fun q : Nat => s.heap.size ≤ q) b := Nat.not_le.mpr hbl
  have hex : exP (fun q : Nat => s.heap.size ≤ q) s := ex_start hts0 hgv
  obtain ⟨c0, i0, hKn0⟩ := u_known (C := R_C) (T := T_C) (N := 5) (n := 5) hts uw_C (hts _ (hsub _ w_240))
  obtain ⟨c1, i1, hKn1⟩ := u_known (C := R_H) (T := T_H) (N := 4) (n := 4) hts uw_H (hts _ (hsub _ w_230))
  obtain ⟨c2, i2, hKn2⟩ := u_known (C := R_K) (T := T_K) (N := 14) (n := 14) hts uw_K (hts _ (hsub _ w_253))
  obtain ⟨c3, i3, hKn3⟩ := u_known (C := R_W) (T := T_W) (N := 10) (n := 10) hts uw_W (hts _ (hsub _ w_248))
  obtain ⟨c4, i4, hKn4⟩ := u_known (C := R_F) (T := T_F) (N := 4) (n := 4) hts uw_F (hts _ (hsub _ w_384))
  obtain ⟨c5, i5, hKn5⟩ := u_known (C := R_M) (T := T_M) (N := 71) (n := 71) hts uw_M (hts _ (hsub _ w_389))
  obtain ⟨c6, i6, hKn6⟩ := u_known (C := R_E) (T := T_E) (N := 13) (n := 13) hts uw_E (hts _ (hsub _ w_176))
  obtain ⟨c7, i7, hKn7⟩ := u_known (C := R_A) (T := T_A) (N := 3) (n := 3) hts uw_A (hts _ (hsub _ w_159))
  obtain ⟨dC, dI, hKc⟩ : ∃ (dC : Nat → ClassId) (dI : Nat → Nat → Nat), ∀ (k : Nat) (q : vw_C), vwCl[k]? = some q → u_Kn s q.1 q.2.1 q.2.2 (dC k) (dI k) := by
    refine ⟨fun k => if k = 0 then c0 else if k = 1 then c1 else if k = 2 then c2 else if k = 3 then c3 else if k = 4 then c4 else if k = 5 then c5 else if k = 6 then c6 else c7, fun k => if k = 0 then i0 else if k = 1 then i1 else if k = 2 then i2 else if k = 3 then i3 else if k = 4 then i4 else if k = 5 then i5 else if k = 6 then i6 else i7, ?_⟩
    intro k q hq
    match k, hq with
    | 0, hq => cases hq; exact hKn0
    | 1, hq => cases hq; exact hKn1
    | 2, hq => cases hq; exact hKn2
    | 3, hq => cases hq; exact hKn3
    | 4, hq => cases hq; exact hKn4
    | 5, hq => cases hq; exact hKn5
    | 6, hq => cases hq; exact hKn6
    | 7, hq => cases hq; exact hKn7
    | k + 8, hq => simp [vwCl] at hq
  have hS : va_S (fun q : Nat => s.heap.size ≤ q) s.heap s.heap [] := va_S.rf
  have hK : va_K (dC, dI) vwCl [] s := ⟨hKc, fun k q h => by simp at h⟩
  have hP : va_P (dC, dI) vwCl [] s.heap := nil_P
  have hD : va_D (fun q : Nat => s.heap.size ≤ q) [] := nil_D
  have hl := lv_entry ([.ref b]) (n := 8) (Nat.le_of_ble_eq_true rfl)
  rw [lg_entry_eq]
  generalize (lg_sl ([.ref b]) ++ List.replicate (8 - (lg_sl ([.ref b])).length) Slot.unset).toArray = ls at hl ⊢
  have hl : lv_has ls 8 [(0, .ref b)] := hl
  refine va_new (ci := 4) (fs := [.null, .null, .null, .int 0]) (C := R_F) (T := T_F) (N := 4) hx hb hts (fun w h => hsub w (uw_F w h)) ty_F tok_F hown (hts _ (hsub _ w_383)) (hts _ (hsub _ w_384)) (hts _ (hsub _ w_335)) hK hP hD hS hA rfl (fun j hj => df_F j hj) (Nat.le_of_ble_eq_true rfl) (Nat.le_of_ble_eq_true rfl) d_L_law_0 (fun q_1 H hP hD hS => ?_)
  have hP : va_P (dC, dI) vwCl [(q_1, .inr (4, [.null, .null, .null, .int 0]))] H := hP
  have hD : va_D (fun q : Nat => s.heap.size ≤ q) [(q_1, .inr (4, [.null, .null, .null, .int 0]))] := hD
  refine W.widen (k := 1) (n := 4) (Nat.le_of_ble_eq_true rfl) (Nat.le_of_ble_eq_true rfl) ?_
  refine lv_dup hx hb d_L_law_3 rfl ?_
  have hPc := hP.sub (ws' := [(q_1, .inr (4, [.null, .null, .null, .int 0]))]) [0] rfl
  have hKc := hK.sub (tys' := []) [] rfl
  have hDc := hD.sub (ws' := [(q_1, .inr (4, [.null, .null, .null, .int 0]))]) [0] (by decide) rfl
  have hFc := va_free (wc := [(q_1, .inr (4, [.null, .null, .null, .int 0]))]) hD hS hA [0] rfl
  refine va_callv (va_runI (As := []) (rest := [.ref q_1]) ⟨hx, hb, hml, hown, hts⟩ (k_F_init l dC dI q_1 H.size) (cwI 0 hts (gC hsub w_386) rfl rfl rfl (hts _ (hsub _ w_335)) (hts _ (hsub _ w_385)) (hts _ (hsub _ w_387)) rfl (by decide +kernel) ⟨Nat.le_of_ble_eq_true rfl, Nat.le_of_ble_eq_true rfl⟩) ⟨bl_1010, fun U hU hW => ⟨rfl, by rw [hU], by rw [hU]; exact hPc, va_K.moved hW.alike hKc, hDc.weaken (fun _ _ _ _ => trivial), exP_go hex hS (fun q h => hFc q h) U hU hW⟩⟩ rfl rfl hl.1 rfl (lv_room (Nat.le_of_ble_eq_true rfl)) d_L_law_4 ⟨Nat.le_of_ble_eq_true rfl, Nat.le_of_ble_eq_true rfl⟩) hS (fun q _ h => hFc q h) hFc (fun u_4 t H1 locs ht hvm hw hB hz1 hk1 hS => ?_)
  obtain ⟨a_5, a_6, a_7, a_8, a_9, a_10, a_11, a_12, a_13, a_14, a_15, a_16, a_17, k_18, k_19, k_20, k_21, k_22, k_23, k_24, k_25, hP1, hK1, hD1⟩ := hB
  rw [ht] at hP1
  have hK1 := va_K.moved hvm.symm hK1
  obtain ⟨hP, hD⟩ := va_join (wr := []) (w1 := [(q_1, .inr (4, [.ref a_5, .ref a_13, .ref a_17, .int 0])), (a_5, .inr (3, [.ref a_6, .ref a_7, .ref a_8, .int 2, .ref a_9, .ref a_10, .ref a_11, .int 0, .ref a_12, .int 0])), (a_6, .inl (k_18, 16, .inl (upd (upd (fun _ => 0) (0 : Int32).toNatClampNeg (-1)) (1 : Int32).toNatClampNeg 0))), (a_7, .inl (k_19, 16, .inl (upd (upd (fun _ => 0) (0 : Int32).toNatClampNeg 1) (1 : Int32).toNatClampNeg 3))), (a_8, .inl (k_20, 16, .inl (fun _ => 0))), (a_9, .inl (k_21, 16, .inl (fun _ => 0))), (a_10, .inl (k_22, 16, .inl (fun _ => 0))), (a_11, .inl (k_23, 16, .inl (fun _ => 0))), (a_12, .inl (k_24, 8, .inr (.inr (.inr (.inr (fun _ => none)))))), (a_13, .inr (2, [.ref a_14, .ref a_15, .ref a_16, .null, .int 0, .null, .int 0, .int 0, .int 0, .int 0, .long 0, .int (-1), .int 0, .int (-1)])), (a_17, .inl (k_25, 400, .inl (fun _ => 0)))]) hP hD [0] [] rfl rfl (by decide) (by decide) hk1 hFc hP1 hD1
  have hK := (hK.sub (tys' := []) [] rfl).app hK1
  generalize H1 = H at hP hS ⊢
  have hP : va_P (dC, dI) vwCl [(q_1, .inr (4, [.ref a_5, .ref a_13, .ref a_17, .int 0])), (a_5, .inr (3, [.ref a_6, .ref a_7, .ref a_8, .int 2, .ref a_9, .ref a_10, .ref a_11, .int 0, .ref a_12, .int 0])), (a_6, .inl (k_18, 16, .inl (upd (upd (fun _ => 0) (0 : Int32).toNatClampNeg (-1)) (1 : Int32).toNatClampNeg 0))), (a_7, .inl (k_19, 16, .inl (upd (upd (fun _ => 0) (0 : Int32).toNatClampNeg 1) (1 : Int32).toNatClampNeg 3))), (a_8, .inl (k_20, 16, .inl (fun _ => 0))), (a_9, .inl (k_21, 16, .inl (fun _ => 0))), (a_10, .inl (k_22, 16, .inl (fun _ => 0))), (a_11, .inl (k_23, 16, .inl (fun _ => 0))), (a_12, .inl (k_24, 8, .inr (.inr (.inr (.inr (fun _ => none)))))), (a_13, .inr (2, [.ref a_14, .ref a_15, .ref a_16, .null, .int 0, .null, .int 0, .int 0, .int 0, .int 0, .long 0, .int (-1), .int 0, .int (-1)])), (a_17, .inl (k_25, 400, .inl (fun _ => 0)))] H := hP
  have hD : va_D (fun q : Nat => s.heap.size ≤ q) [(q_1, .inr (4, [.ref a_5, .ref a_13, .ref a_17, .int 0])), (a_5, .inr (3, [.ref a_6, .ref a_7, .ref a_8, .int 2, .ref a_9, .ref a_10, .ref a_11, .int 0, .ref a_12, .int 0])), (a_6, .inl (k_18, 16, .inl (upd (upd (fun _ => 0) (0 : Int32).toNatClampNeg (-1)) (1 : Int32).toNatClampNeg 0))), (a_7, .inl (k_19, 16, .inl (upd (upd (fun _ => 0) (0 : Int32).toNatClampNeg 1) (1 : Int32).toNatClampNeg 3))), (a_8, .inl (k_20, 16, .inl (fun _ => 0))), (a_9, .inl (k_21, 16, .inl (fun _ => 0))), (a_10, .inl (k_22, 16, .inl (fun _ => 0))), (a_11, .inl (k_23, 16, .inl (fun _ => 0))), (a_12, .inl (k_24, 8, .inr (.inr (.inr (.inr (fun _ => none)))))), (a_13, .inr (2, [.ref a_14, .ref a_15, .ref a_16, .null, .int 0, .null, .int 0, .int 0, .int 0, .int 0, .long 0, .int (-1), .int 0, .int (-1)])), (a_17, .inl (k_25, 400, .inl (fun _ => 0)))] := hD
  have hK : va_K (dC, dI) vwCl [(k_18, .int), (k_19, .int), (k_20, .boolean), (k_21, .int), (k_22, .int), (k_23, .boolean), (k_24, .object "MapFramer$Method"), (k_25, .int)] s := hK
  refine W.widen (k := 89) (n := 5172) (Nat.le_of_ble_eq_true rfl) (Nat.le_of_ble_eq_true rfl) ?_
  refine lv_astore_n (lv' := [(1, .ref q_1), (0, .ref b)]) hx hb d_L_law_7 rfl hl (by decide) rfl (fun ls hl => ?_)
  refine va_new (ci := 5) (fs := [.int 0, .int 0, .null, .null, .int 0, .null, .null, .null, .int 0, .null, .null, .null, .null, .null, .null, .null, .null, .null, .null, .null, .null, .null, .null, .null, .int 0, .null, .null, .null, .null, .null, .null, .null, .null, .int 0, .int 0, .int 0, .int 0, .null, .null, .null, .int 0, .null, .null, .int 0, .int 0, .int 0, .null, .null, .null, .null, .int 0, .null, .null, .int 0, .null, .int 0, .null, .null, .int 0, .null, .null, .null, .null, .int 0, .null, .null, .null, .null, .null, .int 0, .long 0]) (C := R_M) (T := T_M) (N := 71) hx hb hts (fun w h => hsub w (uw_M w h)) ty_M tok_M hown (hts _ (hsub _ w_388)) (hts _ (hsub _ w_389)) (hts _ (hsub _ w_266)) hK hP hD hS hA rfl (fun j hj => df_M j hj) (Nat.le_of_ble_eq_true rfl) (Nat.le_of_ble_eq_true rfl) d_L_law_8 (fun q_26 H hP hD hS => ?_)
  have hP : va_P (dC, dI) vwCl [(q_1, .inr (4, [.ref a_5, .ref a_13, .ref a_17, .int 0])), (a_5, .inr (3, [.ref a_6, .ref a_7, .ref a_8, .int 2, .ref a_9, .ref a_10, .ref a_11, .int 0, .ref a_12, .int 0])), (a_6, .inl (k_18, 16, .inl (upd (upd (fun _ => 0) (0 : Int32).toNatClampNeg (-1)) (1 : Int32).toNatClampNeg 0))), (a_7, .inl (k_19, 16, .inl (upd (upd (fun _ => 0) (0 : Int32).toNatClampNeg 1) (1 : Int32).toNatClampNeg 3))), (a_8, .inl (k_20, 16, .inl (fun _ => 0))), (a_9, .inl (k_21, 16, .inl (fun _ => 0))), (a_10, .inl (k_22, 16, .inl (fun _ => 0))), (a_11, .inl (k_23, 16, .inl (fun _ => 0))), (a_12, .inl (k_24, 8, .inr (.inr (.inr (.inr (fun _ => none)))))), (a_13, .inr (2, [.ref a_14, .ref a_15, .ref a_16, .null, .int 0, .null, .int 0, .int 0, .int 0, .int 0, .long 0, .int (-1), .int 0, .int (-1)])), (a_17, .inl (k_25, 400, .inl (fun _ => 0))), (q_26, .inr (5, [.int 0, .int 0, .null, .null, .int 0, .null, .null, .null, .int 0, .null, .null, .null, .null, .null, .null, .null, .null, .null, .null, .null, .null, .null, .null, .null, .int 0, .null, .null, .null, .null, .null, .null, .null, .null, .int 0, .int 0, .int 0, .int 0, .null, .null, .null, .int 0, .null, .null, .int 0, .int 0, .int 0, .null, .null, .null, .null, .int 0, .null, .null, .int 0, .null, .int 0, .null, .null, .int 0, .null, .null, .null, .null, .int 0, .null, .null, .null, .null, .null, .int 0, .long 0]))] H := hP
  have hD : va_D (fun q : Nat => s.heap.size ≤ q) [(q_1, .inr (4, [.ref a_5, .ref a_13, .ref a_17, .int 0])), (a_5, .inr (3, [.ref a_6, .ref a_7, .ref a_8, .int 2, .ref a_9, .ref a_10, .ref a_11, .int 0, .ref a_12, .int 0])), (a_6, .inl (k_18, 16, .inl (upd (upd (fun _ => 0) (0 : Int32).toNatClampNeg (-1)) (1 : Int32).toNatClampNeg 0))), (a_7, .inl (k_19, 16, .inl (upd (upd (fun _ => 0) (0 : Int32).toNatClampNeg 1) (1 : Int32).toNatClampNeg 3))), (a_8, .inl (k_20, 16, .inl (fun _ => 0))), (a_9, .inl (k_21, 16, .inl (fun _ => 0))), (a_10, .inl (k_22, 16, .inl (fun _ => 0))), (a_11, .inl (k_23, 16, .inl (fun _ => 0))), (a_12, .inl (k_24, 8, .inr (.inr (.inr (.inr (fun _ => none)))))), (a_13, .inr (2, [.ref a_14, .ref a_15, .ref a_16, .null, .int 0, .null, .int 0, .int 0, .int 0, .int 0, .long 0, .int (-1), .int 0, .int (-1)])), (a_17, .inl (k_25, 400, .inl (fun _ => 0))), (q_26, .inr (5, [.int 0, .int 0, .null, .null, .int 0, .null, .null, .null, .int 0, .null, .null, .null, .null, .null, .null, .null, .null, .null, .null, .null, .null, .null, .null, .null, .int 0, .null, .null, .null, .null, .null, .null, .null, .null, .int 0, .int 0, .int 0, .int 0, .null, .null, .null, .int 0, .null, .null, .int 0, .int 0, .int 0, .null, .null, .null, .null, .int 0, .null, .null, .int 0, .null, .int 0, .null, .null, .int 0, .null, .null, .null, .null, .int 0, .null, .null, .null, .null, .null, .int 0, .long 0]))] := hD
  refine W.widen (k := 90) (n := 5243) (Nat.le_of_ble_eq_true rfl) (Nat.le_of_ble_eq_true rfl) ?_
  refine lv_dup hx hb d_L_law_11 rfl ?_
  have hPc := hP.sub (ws' := [(q_26, .inr (5, [.int 0, .int 0, .null, .null, .int 0, .null, .null, .null, .int 0, .null, .null, .null, .null, .null, .null, .null, .null, .null, .null, .null, .null, .null, .null, .null, .int 0, .null, .null, .null, .null, .null, .null, .null, .null, .int 0, .int 0, .int 0, .int 0, .null, .null, .null, .int 0, .null, .null, .int 0, .int 0, .int 0, .null, .null, .null, .null, .int 0, .null, .null, .int 0, .null, .int 0, .null, .null, .int 0, .null, .null, .null, .null, .int 0, .null, .null, .null, .null, .null, .int 0, .long 0]))]) [11] rfl
  have hKc := hK.sub (tys' := []) [] rfl
  have hDc := hD.sub (ws' := [(q_26, .inr (5, [.int 0, .int 0, .null, .null, .int 0, .null, .null, .null, .int 0, .null, .null, .null, .null, .null, .null, .null, .null, .null, .null, .null, .null, .null, .null, .null, .int 0, .null, .null, .null, .null, .null, .null, .null, .null, .int 0, .int 0, .int 0, .int 0, .null, .null, .null, .int 0, .null, .null, .int 0, .int 0, .int 0, .null, .null, .null, .null, .int 0, .null, .null, .int 0, .null, .int 0, .null, .null, .int 0, .null, .null, .null, .null, .int 0, .null, .null, .null, .null, .null, .int 0, .long 0]))]) [11] (by decide) rfl
  have hFc := va_free (wc := [(q_26, .inr (5, [.int 0, .int 0, .null, .null, .int 0, .null, .null, .null, .int 0, .null, .null, .null, .null, .null, .null, .null, .null, .null, .null, .null, .null, .null, .null, .null, .int 0, .null, .null, .null, .null, .null, .null, .null, .null, .int 0, .int 0, .int 0, .int 0, .null, .null, .null, .int 0, .null, .null, .int 0, .int 0, .int 0, .null, .null, .null, .null, .int 0, .null, .null, .int 0, .null, .int 0, .null, .null, .int 0, .null, .null, .null, .null, .int 0, .null, .null, .null, .null, .null, .int 0, .long 0]))]) hD hS hA [11] rfl
  refine va_callv (va_runI (As := []) (rest := [.ref q_26]) ⟨hx, hb, hml, hown, hts⟩ (k_M_init l dC dI q_26 H.size) (cwI 0 hts (gC hsub w_391) rfl rfl rfl (hts _ (hsub _ w_266)) (hts _ (hsub _ w_390)) (hts _ (hsub _ w_392)) rfl (by decide +kernel) ⟨Nat.le_of_ble_eq_true rfl, Nat.le_of_ble_eq_true rfl⟩) ⟨bl_1000, fun U hU hW => ⟨rfl, by rw [hU], by rw [hU]; exact hPc, va_K.moved hW.alike hKc, hDc.weaken (fun _ _ _ _ => trivial)⟩⟩ rfl rfl hl.1 rfl (lv_room (Nat.le_of_ble_eq_true rfl)) d_L_law_12 ⟨Nat.le_of_ble_eq_true rfl, Nat.le_of_ble_eq_true rfl⟩) hS (fun q _ h => hFc q h) hFc (fun u_29 t H1 locs ht hvm hw hB hz1 hk1 hS => ?_)
  obtain ⟨m_30, m_31, m_32, m_33, m_34, m_35, m_36, m_37, m_38, m_39, m_40, m_41, m_42, m_43, m_44, m_45, m_46, m_47, m_48, m_49, m_50, m_51, m_52, m_53, m_54, m_55, m_56, m_57, m_58, m_59, m_60, m_61, m_62, m_63, m_64, m_65, m_66, m_67, m_68, m_69, m_70, m_71, m_72, m_73, m_74, m_75, m_76, m_77, m_78, m_79, m_80, k_81, k_82, k_83, k_84, k_85, k_86, k_87, k_88, k_89, k_90, hP1, hK1, hD1⟩ := hB
  rw [ht] at hP1
  have hK1 := va_K.moved hvm.symm hK1
  obtain ⟨hP, hD⟩ := va_join (wr := [(q_1, .inr (4, [.ref a_5, .ref a_13, .ref a_17, .int 0])), (a_5, .inr (3, [.ref a_6, .ref a_7, .ref a_8, .int 2, .ref a_9, .ref a_10, .ref a_11, .int 0, .ref a_12, .int 0])), (a_6, .inl (k_18, 16, .inl (upd (upd (fun _ => 0) (0 : Int32).toNatClampNeg (-1)) (1 : Int32).toNatClampNeg 0))), (a_7, .inl (k_19, 16, .inl (upd (upd (fun _ => 0) (0 : Int32).toNatClampNeg 1) (1 : Int32).toNatClampNeg 3))), (a_8, .inl (k_20, 16, .inl (fun _ => 0))), (a_9, .inl (k_21, 16, .inl (fun _ => 0))), (a_10, .inl (k_22, 16, .inl (fun _ => 0))), (a_11, .inl (k_23, 16, .inl (fun _ => 0))), (a_12, .inl (k_24, 8, .inr (.inr (.inr (.inr (fun _ => none)))))), (a_13, .inr (2, [.ref a_14, .ref a_15, .ref a_16, .null, .int 0, .null, .int 0, .int 0, .int 0, .int 0, .long 0, .int (-1), .int 0, .int (-1)])), (a_17, .inl (k_25, 400, .inl (fun _ => 0)))]) (w1 := [(q_26, .inr (5, [.int 0, .int 2, .ref m_30, .ref m_31, .int 0, .ref m_32, .ref m_33, .ref m_34, .int 0, .ref m_35, .ref m_36, .ref m_37, .ref m_38, .ref m_39, .ref m_40, .ref m_41, .ref m_42, .ref m_43, .ref m_44, .ref m_45, .ref m_46, .ref m_47, .ref m_48, .ref m_49, .int 0, .ref m_50, .ref m_51, .ref m_52, .ref m_53, .ref m_54, .ref m_55, .ref m_56, .ref m_57, .int 0, .int 0, .int 0, .int 0, .ref m_58, .ref m_59, .ref m_60, .int 0, .ref m_61, .ref m_62, .int 0, .int 0, .int 0, .ref m_63, .ref m_64, .ref m_65, .ref m_66, .int 0, .ref m_67, .ref m_68, .int 0, .ref m_69, .int 0, .ref m_70, .ref m_71, .int 0, .ref m_72, .ref m_73, .ref m_74, .ref m_75, .int 0, .ref m_76, .ref m_77, .ref m_78, .ref m_79, .ref m_80, .int 0, .long 0])), (m_30, .inl (k_81, 16, .inl (fun _ => 0))), (m_31, .inl (k_82, 16, .inl (fun _ => 0))), (m_32, .inl (k_83, 16, .inl (fun _ => 0))), (m_33, .inl (k_84, 16, .inl (fun _ => 0))), (m_34, .inl (k_85, 16, .inl (fun _ => 0))), (m_35, .inl (k_86, 32, .inl (fun _ => 0))), (m_36, .inl (k_87, 8, .inl (fun _ => 0))), (m_37, .inl (k_88, 8, .inl (fun _ => 0))), (m_50, .inl (k_89, 400, .inl (fun _ => 0))), (m_70, .inl (k_90, 4, .inl endF))]) hP hD [11] [0, 1, 2, 3, 4, 5, 6, 7, 8, 9, 10] rfl rfl (by decide) (by decide) hk1 hFc hP1 hD1
  have hK := (hK.sub (tys' := [(k_18, .int), (k_19, .int), (k_20, .boolean), (k_21, .int), (k_22, .int), (k_23, .boolean), (k_24, .object "MapFramer$Method"), (k_25, .int)]) [0, 1, 2, 3, 4, 5, 6, 7] rfl).app hK1
  generalize H1 = H at hP hS ⊢
  have hP : va_P (dC, dI) vwCl [(q_1, .inr (4, [.ref a_5, .ref a_13, .ref a_17, .int 0])), (a_5, .inr (3, [.ref a_6, .ref a_7, .ref a_8, .int 2, .ref a_9, .ref a_10, .ref a_11, .int 0, .ref a_12, .int 0])), (a_6, .inl (k_18, 16, .inl (upd (upd (fun _ => 0) (0 : Int32).toNatClampNeg (-1)) (1 : Int32).toNatClampNeg 0))), (a_7, .inl (k_19, 16, .inl (upd (upd (fun _ => 0) (0 : Int32).toNatClampNeg 1) (1 : Int32).toNatClampNeg 3))), (a_8, .inl (k_20, 16, .inl (fun _ => 0))), (a_9, .inl (k_21, 16, .inl (fun _ => 0))), (a_10, .inl (k_22, 16, .inl (fun _ => 0))), (a_11, .inl (k_23, 16, .inl (fun _ => 0))), (a_12, .inl (k_24, 8, .inr (.inr (.inr (.inr (fun _ => none)))))), (a_13, .inr (2, [.ref a_14, .ref a_15, .ref a_16, .null, .int 0, .null, .int 0, .int 0, .int 0, .int 0, .long 0, .int (-1), .int 0, .int (-1)])), (a_17, .inl (k_25, 400, .inl (fun _ => 0))), (q_26, .inr (5, [.int 0, .int 2, .ref m_30, .ref m_31, .int 0, .ref m_32, .ref m_33, .ref m_34, .int 0, .ref m_35, .ref m_36, .ref m_37, .ref m_38, .ref m_39, .ref m_40, .ref m_41, .ref m_42, .ref m_43, .ref m_44, .ref m_45, .ref m_46, .ref m_47, .ref m_48, .ref m_49, .int 0, .ref m_50, .ref m_51, .ref m_52, .ref m_53, .ref m_54, .ref m_55, .ref m_56, .ref m_57, .int 0, .int 0, .int 0, .int 0, .ref m_58, .ref m_59, .ref m_60, .int 0, .ref m_61, .ref m_62, .int 0, .int 0, .int 0, .ref m_63, .ref m_64, .ref m_65, .ref m_66, .int 0, .ref m_67, .ref m_68, .int 0, .ref m_69, .int 0, .ref m_70, .ref m_71, .int 0, .ref m_72, .ref m_73, .ref m_74, .ref m_75, .int 0, .ref m_76, .ref m_77, .ref m_78, .ref m_79, .ref m_80, .int 0, .long 0])), (m_30, .inl (k_81, 16, .inl (fun _ => 0))), (m_31, .inl (k_82, 16, .inl (fun _ => 0))), (m_32, .inl (k_83, 16, .inl (fun _ => 0))), (m_33, .inl (k_84, 16, .inl (fun _ => 0))), (m_34, .inl (k_85, 16, .inl (fun _ => 0))), (m_35, .inl (k_86, 32, .inl (fun _ => 0))), (m_36, .inl (k_87, 8, .inl (fun _ => 0))), (m_37, .inl (k_88, 8, .inl (fun _ => 0))), (m_50, .inl (k_89, 400, .inl (fun _ => 0))), (m_70, .inl (k_90, 4, .inl endF))] H := hP
  have hD : va_D (fun q : Nat => s.heap.size ≤ q) [(q_1, .inr (4, [.ref a_5, .ref a_13, .ref a_17, .int 0])), (a_5, .inr (3, [.ref a_6, .ref a_7, .ref a_8, .int 2, .ref a_9, .ref a_10, .ref a_11, .int 0, .ref a_12, .int 0])), (a_6, .inl (k_18, 16, .inl (upd (upd (fun _ => 0) (0 : Int32).toNatClampNeg (-1)) (1 : Int32).toNatClampNeg 0))), (a_7, .inl (k_19, 16, .inl (upd (upd (fun _ => 0) (0 : Int32).toNatClampNeg 1) (1 : Int32).toNatClampNeg 3))), (a_8, .inl (k_20, 16, .inl (fun _ => 0))), (a_9, .inl (k_21, 16, .inl (fun _ => 0))), (a_10, .inl (k_22, 16, .inl (fun _ => 0))), (a_11, .inl (k_23, 16, .inl (fun _ => 0))), (a_12, .inl (k_24, 8, .inr (.inr (.inr (.inr (fun _ => none)))))), (a_13, .inr (2, [.ref a_14, .ref a_15, .ref a_16, .null, .int 0, .null, .int 0, .int 0, .int 0, .int 0, .long 0, .int (-1), .int 0, .int (-1)])), (a_17, .inl (k_25, 400, .inl (fun _ => 0))), (q_26, .inr (5, [.int 0, .int 2, .ref m_30, .ref m_31, .int 0, .ref m_32, .ref m_33, .ref m_34, .int 0, .ref m_35, .ref m_36, .ref m_37, .ref m_38, .ref m_39, .ref m_40, .ref m_41, .ref m_42, .ref m_43, .ref m_44, .ref m_45, .ref m_46, .ref m_47, .ref m_48, .ref m_49, .int 0, .ref m_50, .ref m_51, .ref m_52, .ref m_53, .ref m_54, .ref m_55, .ref m_56, .ref m_57, .int 0, .int 0, .int 0, .int 0, .ref m_58, .ref m_59, .ref m_60, .int 0, .ref m_61, .ref m_62, .int 0, .int 0, .int 0, .ref m_63, .ref m_64, .ref m_65, .ref m_66, .int 0, .ref m_67, .ref m_68, .int 0, .ref m_69, .int 0, .ref m_70, .ref m_71, .int 0, .ref m_72, .ref m_73, .ref m_74, .ref m_75, .int 0, .ref m_76, .ref m_77, .ref m_78, .ref m_79, .ref m_80, .int 0, .long 0])), (m_30, .inl (k_81, 16, .inl (fun _ => 0))), (m_31, .inl (k_82, 16, .inl (fun _ => 0))), (m_32, .inl (k_83, 16, .inl (fun _ => 0))), (m_33, .inl (k_84, 16, .inl (fun _ => 0))), (m_34, .inl (k_85, 16, .inl (fun _ => 0))), (m_35, .inl (k_86, 32, .inl (fun _ => 0))), (m_36, .inl (k_87, 8, .inl (fun _ => 0))), (m_37, .inl (k_88, 8, .inl (fun _ => 0))), (m_50, .inl (k_89, 400, .inl (fun _ => 0))), (m_70, .inl (k_90, 4, .inl endF))] := hD
  have hK : va_K (dC, dI) vwCl [(k_18, .int), (k_19, .int), (k_20, .boolean), (k_21, .int), (k_22, .int), (k_23, .boolean), (k_24, .object "MapFramer$Method"), (k_25, .int), (k_81, .int), (k_82, .boolean), (k_83, .int), (k_84, .int), (k_85, .boolean), (k_86, .int), (k_87, .int), (k_88, .int), (k_89, .int), (k_90, .int)] s := hK
  refine W.widen (k := 141) (n := 53744) (Nat.le_of_ble_eq_true rfl) (Nat.le_of_ble_eq_true rfl) ?_
  refine lv_astore_n (lv' := [(2, .ref q_26), (1, .ref q_1), (0, .ref b)]) hx hb d_L_law_15 rfl hl (by decide) rfl (fun ls hl => ?_)
  refine lv_iconst (v := 1) hx hb d_L_law_16 (by decide) ?_
  refine va_newa (atype := .long) (ty := .long) (N' := 1) (a0 := (1, .inr (.inl (fun _ => 0)))) hx hb (hts _ (hsub _ w_223)) rfl hK hP hD hS hA (fun _ => vz_l _ _) (by decide) (by decide) (Nat.le_of_ble_eq_true rfl) (Nat.le_of_ble_eq_true rfl) (Nat.le_of_ble_eq_true rfl) d_L_law_17 (fun q_91 k_92 H hK hP hD hS => ?_)
  have hK : va_K (dC, dI) vwCl [(k_18, .int), (k_19, .int), (k_20, .boolean), (k_21, .int), (k_22, .int), (k_23, .boolean), (k_24, .object "MapFramer$Method"), (k_25, .int), (k_81, .int), (k_82, .boolean), (k_83, .int), (k_84, .int), (k_85, .boolean), (k_86, .int), (k_87, .int), (k_88, .int), (k_89, .int), (k_90, .int), (k_92, .long)] s := hK
  have hP : va_P (dC, dI) vwCl [(q_1, .inr (4, [.ref a_5, .ref a_13, .ref a_17, .int 0])), (a_5, .inr (3, [.ref a_6, .ref a_7, .ref a_8, .int 2, .ref a_9, .ref a_10, .ref a_11, .int 0, .ref a_12, .int 0])), (a_6, .inl (k_18, 16, .inl (upd (upd (fun _ => 0) (0 : Int32).toNatClampNeg (-1)) (1 : Int32).toNatClampNeg 0))), (a_7, .inl (k_19, 16, .inl (upd (upd (fun _ => 0) (0 : Int32).toNatClampNeg 1) (1 : Int32).toNatClampNeg 3))), (a_8, .inl (k_20, 16, .inl (fun _ => 0))), (a_9, .inl (k_21, 16, .inl (fun _ => 0))), (a_10, .inl (k_22, 16, .inl (fun _ => 0))), (a_11, .inl (k_23, 16, .inl (fun _ => 0))), (a_12, .inl (k_24, 8, .inr (.inr (.inr (.inr (fun _ => none)))))), (a_13, .inr (2, [.ref a_14, .ref a_15, .ref a_16, .null, .int 0, .null, .int 0, .int 0, .int 0, .int 0, .long 0, .int (-1), .int 0, .int (-1)])), (a_17, .inl (k_25, 400, .inl (fun _ => 0))), (q_26, .inr (5, [.int 0, .int 2, .ref m_30, .ref m_31, .int 0, .ref m_32, .ref m_33, .ref m_34, .int 0, .ref m_35, .ref m_36, .ref m_37, .ref m_38, .ref m_39, .ref m_40, .ref m_41, .ref m_42, .ref m_43, .ref m_44, .ref m_45, .ref m_46, .ref m_47, .ref m_48, .ref m_49, .int 0, .ref m_50, .ref m_51, .ref m_52, .ref m_53, .ref m_54, .ref m_55, .ref m_56, .ref m_57, .int 0, .int 0, .int 0, .int 0, .ref m_58, .ref m_59, .ref m_60, .int 0, .ref m_61, .ref m_62, .int 0, .int 0, .int 0, .ref m_63, .ref m_64, .ref m_65, .ref m_66, .int 0, .ref m_67, .ref m_68, .int 0, .ref m_69, .int 0, .ref m_70, .ref m_71, .int 0, .ref m_72, .ref m_73, .ref m_74, .ref m_75, .int 0, .ref m_76, .ref m_77, .ref m_78, .ref m_79, .ref m_80, .int 0, .long 0])), (m_30, .inl (k_81, 16, .inl (fun _ => 0))), (m_31, .inl (k_82, 16, .inl (fun _ => 0))), (m_32, .inl (k_83, 16, .inl (fun _ => 0))), (m_33, .inl (k_84, 16, .inl (fun _ => 0))), (m_34, .inl (k_85, 16, .inl (fun _ => 0))), (m_35, .inl (k_86, 32, .inl (fun _ => 0))), (m_36, .inl (k_87, 8, .inl (fun _ => 0))), (m_37, .inl (k_88, 8, .inl (fun _ => 0))), (m_50, .inl (k_89, 400, .inl (fun _ => 0))), (m_70, .inl (k_90, 4, .inl endF)), (q_91, .inl (k_92, 1, .inr (.inl (fun _ => 0))))] H := hP
  have hD : va_D (fun q : Nat => s.heap.size ≤ q) [(q_1, .inr (4, [.ref a_5, .ref a_13, .ref a_17, .int 0])), (a_5, .inr (3, [.ref a_6, .ref a_7, .ref a_8, .int 2, .ref a_9, .ref a_10, .ref a_11, .int 0, .ref a_12, .int 0])), (a_6, .inl (k_18, 16, .inl (upd (upd (fun _ => 0) (0 : Int32).toNatClampNeg (-1)) (1 : Int32).toNatClampNeg 0))), (a_7, .inl (k_19, 16, .inl (upd (upd (fun _ => 0) (0 : Int32).toNatClampNeg 1) (1 : Int32).toNatClampNeg 3))), (a_8, .inl (k_20, 16, .inl (fun _ => 0))), (a_9, .inl (k_21, 16, .inl (fun _ => 0))), (a_10, .inl (k_22, 16, .inl (fun _ => 0))), (a_11, .inl (k_23, 16, .inl (fun _ => 0))), (a_12, .inl (k_24, 8, .inr (.inr (.inr (.inr (fun _ => none)))))), (a_13, .inr (2, [.ref a_14, .ref a_15, .ref a_16, .null, .int 0, .null, .int 0, .int 0, .int 0, .int 0, .long 0, .int (-1), .int 0, .int (-1)])), (a_17, .inl (k_25, 400, .inl (fun _ => 0))), (q_26, .inr (5, [.int 0, .int 2, .ref m_30, .ref m_31, .int 0, .ref m_32, .ref m_33, .ref m_34, .int 0, .ref m_35, .ref m_36, .ref m_37, .ref m_38, .ref m_39, .ref m_40, .ref m_41, .ref m_42, .ref m_43, .ref m_44, .ref m_45, .ref m_46, .ref m_47, .ref m_48, .ref m_49, .int 0, .ref m_50, .ref m_51, .ref m_52, .ref m_53, .ref m_54, .ref m_55, .ref m_56, .ref m_57, .int 0, .int 0, .int 0, .int 0, .ref m_58, .ref m_59, .ref m_60, .int 0, .ref m_61, .ref m_62, .int 0, .int 0, .int 0, .ref m_63, .ref m_64, .ref m_65, .ref m_66, .int 0, .ref m_67, .ref m_68, .int 0, .ref m_69, .int 0, .ref m_70, .ref m_71, .int 0, .ref m_72, .ref m_73, .ref m_74, .ref m_75, .int 0, .ref m_76, .ref m_77, .ref m_78, .ref m_79, .ref m_80, .int 0, .long 0])), (m_30, .inl (k_81, 16, .inl (fun _ => 0))), (m_31, .inl (k_82, 16, .inl (fun _ => 0))), (m_32, .inl (k_83, 16, .inl (fun _ => 0))), (m_33, .inl (k_84, 16, .inl (fun _ => 0))), (m_34, .inl (k_85, 16, .inl (fun _ => 0))), (m_35, .inl (k_86, 32, .inl (fun _ => 0))), (m_36, .inl (k_87, 8, .inl (fun _ => 0))), (m_37, .inl (k_88, 8, .inl (fun _ => 0))), (m_50, .inl (k_89, 400, .inl (fun _ => 0))), (m_70, .inl (k_90, 4, .inl endF)), (q_91, .inl (k_92, 1, .inr (.inl (fun _ => 0))))] := hD
  refine W.widen (k := 142) (n := 53745) (Nat.le_of_ble_eq_true rfl) (Nat.le_of_ble_eq_true rfl) ?_
  refine lv_astore_n (lv' := [(3, .ref q_91), (2, .ref q_26), (1, .ref q_1), (0, .ref b)]) hx hb d_L_law_19 rfl hl (by decide) rfl (fun ls hl => ?_)
  refine lv_iconst (v := 0) hx hb d_L_law_20 (by decide) ?_
  refine lv_istore (lv' := [(4, .int 0), (3, .ref q_91), (2, .ref q_26), (1, .ref q_1), (0, .ref b)]) hx hb d_L_law_21 hl (by decide) rfl (fun ls hl => ?_)
  refine lv_iload hx hb d_L_law_23 (lv_at hl 0 rfl) ?_
  refine lv_aload_n hx hb d_L_law_25 rfl (lv_at hl 4 rfl) ?_
  refine va_slen hx hb hX hbl hbA hS d_L_law_26 ?_
  refine lv_bipush (v := 7) hx hb d_L_law_27 (by decide) ?_
  refine lv_isub hx hb d_L_law_29 ?_
  refine lv_icmp_gt (tgt := 1198) hx hb d_L_law_30 (by decide) (fun c_9 => ?_) (fun c_9 => ?_)
  · refine lv_iconst (v := 1) hx hb d_L_law_1198 (by decide) ?_
    refine va_forget (fun q hq => hS.2.2 q hq) ?_
    refine W.widen (k := 600002) (n := 7302232) (Nat.le_of_ble_eq_true rfl) (Nat.le_of_ble_eq_true rfl) ?_
    exact lw_ret hx hb hr hlocks d_L_law_1199
  · have hL7 : L = 7 := by
      rcases Nat.lt_or_ge L 7 with h | h
      · exact absurd (lt_7 L h) c_9
      · omega
    subst hL7
    refine lv_aload_n hx hb d_L_law_33 rfl (lv_at hl 4 rfl) ?_
    refine lv_iload hx hb d_L_law_34 (lv_at hl 0 rfl) ?_
    refine va_sld hx hb hX hbl hbA hS (vp_in_iff.mpr (by decide)) d_L_law_36 ?_
    refine lv_bipush (v := 15) hx hb d_L_law_37 (by decide) ?_
    refine lv_iand hx hb d_L_law_39 ?_
    obtain ⟨j, hj, hje⟩ := pk_andE (xs (0 : Int32).toNatClampNeg) (m := 15) 4 (by decide)
    refine tp_i (nI j) hje ?_
    have hl : lv_has ls 8 [(4, .int 0), (3, .ref q_91), (2, .ref q_26), (1, .ref q_1), (0, .ref b)] := lv_sub hl [0, 1, 2, 3, 4] rfl
    match j, hj with
    | 0, _ => exact (by
      refine lv_tableIn (off := 76) (tgt := 116) hx hb d_L_law_40 (by decide) (by decide) (by decide) (by decide) ?_
      exact law_c0 l hl9 C0 hex (hK.sub [0, 1, 2, 8, 9, 18] rfl) (hP.sub [0, 1, 2, 3, 4, 11, 12, 13, 22] rfl) (hD.sub [0, 1, 2, 3, 4, 11, 12, 13, 22] (by decide) rfl) hS hl)
    | 1, _ => exact (by
      refine lv_tableIn (off := 160) (tgt := 200) hx hb d_L_law_40 (by decide) (by decide) (by decide) (by decide) ?_
      exact law_c1 l hl9 C0 hex (hK.sub [2, 3, 4, 5, 9, 10, 11, 12, 18] rfl) (hP.sub [0, 1, 4, 5, 6, 7, 11, 13, 14, 15, 16, 22] rfl) (hD.sub [0, 1, 4, 5, 6, 7, 11, 13, 14, 15, 16, 22] (by decide) rfl) hS hl)
    | 2, _ => exact (by
      refine lv_tableIn (off := 256) (tgt := 296) hx hb d_L_law_40 (by decide) (by decide) (by decide) (by decide) ?_
      exact law_c2 l hl9 C0 hex (hK.sub [6, 13, 14, 15, 18] rfl) (hP.sub [0, 1, 8, 11, 17, 18, 19, 22] rfl) (hD.sub [0, 1, 8, 11, 17, 18, 19, 22] (by decide) rfl) hS hl)
    | 3, _ => exact (by
      refine lv_tableIn (off := 324) (tgt := 364) hx hb d_L_law_40 (by decide) (by decide) (by decide) (by decide) ?_
      exact law_c3 l hl9 C0 hex (hK.sub [7, 16] rfl) (hP.sub [0, 10, 11, 20] rfl) (hD.sub [0, 10, 11, 20] (by decide) rfl) hS hl)
    | 4, _ => exact (by
      refine lv_tableIn (off := 349) (tgt := 389) hx hb d_L_law_40 (by decide) (by decide) (by decide) (by decide) ?_
      exact law_c4 l hl9 C0 hex (hK.sub [] rfl) (hP.sub [0, 1, 11] rfl) (hD.sub [0, 1, 11] (by decide) rfl) hS hl)
    | 5, _ => exact (by
      refine lv_tableIn (off := 421) (tgt := 461) hx hb d_L_law_40 (by decide) (by decide) (by decide) (by decide) ?_
      exact law_c5 l hl9 C0 hex (hK.sub [18] rfl) (hP.sub [0, 1, 11, 22] rfl) (hD.sub [0, 1, 11, 22] (by decide) rfl) hS hl)
    | 6, _ => exact (by
      refine lv_tableIn (off := 525) (tgt := 565) hx hb d_L_law_40 (by decide) (by decide) (by decide) (by decide) ?_
      exact law_c6 l hl9 C0 hex (hK.sub [18] rfl) (hP.sub [0, 1, 11, 22] rfl) (hD.sub [0, 1, 11, 22] (by decide) rfl) hS hl)
    | 7, _ => exact (by
      refine lv_tableIn (off := 581) (tgt := 621) hx hb d_L_law_40 (by decide) (by decide) (by decide) (by decide) ?_
      exact law_c7 l hl9 C0 hex (hK.sub [18] rfl) (hP.sub [0, 1, 11, 22] rfl) (hD.sub [0, 1, 11, 22] (by decide) rfl) hS hl)
    | 8, _ => exact (by
      refine lv_tableIn (off := 649) (tgt := 689) hx hb d_L_law_40 (by decide) (by decide) (by decide) (by decide) ?_
      exact law_c8 l hl9 C0 hex (hK.sub [18] rfl) (hP.sub [0, 1, 11, 22] rfl) (hD.sub [0, 1, 11, 22] (by decide) rfl) hS hl)
    | 9, _ => exact (by
      refine lv_tableIn (off := 717) (tgt := 757) hx hb d_L_law_40 (by decide) (by decide) (by decide) (by decide) ?_
      exact law_c9 l hl9 C0 hex (hK.sub [18] rfl) (hP.sub [0, 1, 11, 22] rfl) (hD.sub [0, 1, 11, 22] (by decide) rfl) hS hl)
    | 10, _ => exact (by
      refine lv_tableIn (off := 785) (tgt := 825) hx hb d_L_law_40 (by decide) (by decide) (by decide) (by decide) ?_
      exact law_c10 l hl9 C0 hex (hK.sub [18] rfl) (hP.sub [0, 1, 11, 22] rfl) (hD.sub [0, 1, 11, 22] (by decide) rfl) hS hl)
    | 11, _ => exact (by
      refine lv_tableIn (off := 865) (tgt := 905) hx hb d_L_law_40 (by decide) (by decide) (by decide) (by decide) ?_
      exact law_c11 l hl9 C0 hex (hK.sub [18] rfl) (hP.sub [0, 1, 11, 22] rfl) (hD.sub [0, 1, 11, 22] (by decide) rfl) hS hl)
    | 12, _ => exact (by
      refine lv_tableIn (off := 945) (tgt := 985) hx hb d_L_law_40 (by decide) (by decide) (by decide) (by decide) ?_
      exact law_c12 l hl9 C0 hex (hK.sub [14, 18] rfl) (hP.sub [0, 1, 11, 18, 22] rfl) (hD.sub [0, 1, 11, 18, 22] (by decide) rfl) hS hl)
    | 13, _ => exact (by
      refine lv_tableIn (off := 1102) (tgt := 1142) hx hb d_L_law_40 (by decide) (by decide) (by decide) (by decide) ?_
      exact law_c13 l hl9 C0 hex (hK.sub [17] rfl) (hP.sub [0, 9, 11, 21] rfl) (hD.sub [0, 9, 11, 21] (by decide) rfl) hS hl)
    | 14, _ => exact (by
      refine lv_tableIn (off := 1127) (tgt := 1167) hx hb d_L_law_40 (by decide) (by decide) (by decide) (by decide) ?_
      exact law_c14 l hl9 C0 hex (hK.sub [] rfl) (hP.sub [0, 1, 11] rfl) (hD.sub [0, 1, 11] (by decide) rfl) hS hl)
    | 15, _ => exact (by
      refine lv_tableOut (tgt := 1192) hx hb d_L_law_40 (by decide) (by decide) ?_
      exact law_c15 l hl9 C0 hex (hK.sub [] rfl) (hP.sub [] rfl) (hD.sub [] (by decide) rfl) hS hl)
    | j + 16, hj => exact absurd hj (by omega)

set_option maxHeartbeats 4000000 in
theorem lw_walk (l : Launch) (hl9 : l.stackTraces = false) (b : Addr) (xs : List Int32) : MetFree l x (headSpec (Jvm.Cond.code x code maxLocals ret :: tables_1) room_1) (lw_P b xs) (fun _ _ _ _ _ => True) lw_Q := by
  refine MetFree.of_bodyS (code := code) (maxLocals := maxLocals) (ret := ret) (by decide) ?_ ?_
  · intro args s m h hn
    obtain ⟨meth, c, h1, h2, h3, h4, h5, h6, -, -⟩ := Cond.code_spec hn (atoms_spec (ws := Jvm.Cond.code x code maxLocals ret :: tables_1) h _ List.mem_cons_self)
    exact ⟨meth, c, h1, h2, h3, h4, h5, h6⟩
  · intro p e s m args below meth c s₁ B hml0 hP _
    obtain ⟨rfl, hx, hbd, hgv⟩ := hP
    obtain ⟨scr, harrAt, hlist, hof, hsmall⟩ := hx
    obtain ⟨hcb, hkn, -, -⟩ := State.arrayAt?_spec harrAt
    have hown : s.vm.findClass R_law = some m.cls := findClass_of_methodNamed B.named
    have hts0 : ∀ c ∈ (Jvm.Cond.code x code maxLocals ret :: tables_1), c.before #[Value.ref b] s = true := atoms_spec (ws := Jvm.Cond.code x code maxLocals ret :: tables_1) B.pre
    have hts : ∀ w ∈ lw_tbl, w.before #[Value.ref b] s = true := k2_hts_sels lw_privs (fun w hw => hts0 w (List.mem_cons_of_mem _ hw)) lw_privs_ok
    have hml : c.maxLocals = 8 := B.maxLocals_eq (hts0 _ List.mem_cons_self)
    have X₀ : Stand p l e room_1 s m #[Value.ref b] below meth c s₁ [] 0 0 := Stand.of_body B
    have hh0 : s₁.heap = s.heap := by rw [B.state]; rfl
    have hsz : scr.slots.size = xs.length := by rw [← Array.length_toList, hlist, List.length_map]
    have hval : ∀ j : Nat, j < xs.length → scr.slots[j]? = some (.int (xs.getD j 0)) := fun j hj => by
      rw [← Array.getElem?_toList, hlist]
      simp [hj]
    have hbl : b < s.heap.size := (Array.getElem?_eq_some_iff.mp hcb).1
    have hX : va_X b xs.length (fun j => xs.getD j 0) s s.heap := ⟨scr, hcb, hof, hkn, hsz, hval⟩
    have K : W p l e room_1 s m #[Value.ref b] below meth c s₁.heap [] 0 0 (lw_Z below #[Value.ref b] s) (entryFrame m ([Value.ref b] : List Value).toArray 8) := by
      rw [hh0]
      exact whole_start l hl9 hbd ⟨B.exec, B.bytes, B.returns, hml, hown, hts, hX, hbl, B.notSynchronized, hgv⟩
    obtain ⟨t, a1, o, b1, b2, b3⟩ := K s₁ rfl X₀
    exact ⟨t, o, a1, b1, b2, b3⟩
theorem lw_pre_spec {args : Array Value} {s : State} (h : (Jvm.Cond.and given_1 narrow_1).before args s = true) (hr : rest_1_c.before args s = true) : ∃ (b : Addr) (xs : List Int32), lw_P b xs args s := by
  have hs := flat_of_before _ h
  have hq := flat_of_before _ hr
  have hc : (Cond.count 1).before args s = true := hs _ (by decide +kernel)
  have harr : (Cond.arrayOf (.arg 0) .int).before args s = true := hs _ (by decide +kernel)
  have hle : (Cond.le (.length (.arg 0)) (.int 7)).before args s = true := hs _ (by decide +kernel)
  have hlen : (Cond.isInt (.length (.arg 0))).before args s = true := hq _ (by decide +kernel)
  have hall : (Cond.all (.arg 0) (.isInt (.elem (.arg 0) (.index 0)))).before args s = true := hq _ (by decide +kernel)
  obtain ⟨b, xs, hb, hx⟩ := State.ints_of_pre rfl harr hlen hall
  have hsm : xs.length < 2 ^ 31 := hx.choose_spec.2.2.2
  have hev : (Term.length (.arg 0)).eval args s none [] s = some (.int xs.length.toInt32) := hx.length_eval hb
  have hv := Cond.le_ints hev (show (Term.int 7).eval args s none [] s = some (.int 7) from rfl)
  have hd : xs.length.toInt32 ≤ 7 := by
    simpa [Cond.before, Cond.holds, hv] using hle
  have hN : xs.length ≤ 7 := (Int32.ofNat_le_ofNat hsm (by decide)).mp (show Int32.ofNat xs.length ≤ Int32.ofNat 7 from hd)
  exact ⟨b, xs, Cond.one_arg hc (show args[0]? = some (.ref b) from hb), hx, hN, h⟩
theorem lw_comes (l : Launch) (hl9 : l.stackTraces = false) : Comes l x (Jvm.Cond.code x code maxLocals ret :: tables_1) room_1 (fun tb e args s => Calls_1 tb e args s ∧ rest_1 tb e args s ∧ Pre_1 tb e args s)
    (fun _ _ args s o t => lw_Q args s o t) := by
  intro p e ha hc hk s m args below hf hfit hheap happ hpre
  obtain ⟨b, xs, hP⟩ := lw_pre_spec hpre.2.2 hpre.2.1
  obtain ⟨k, o, h1, h2, h3, hQ⟩ := lw_walk l hl9 b xs p e ha hc hk s m args below hf ((Spec.applies_iff_loose hf).mp happ).1 hP trivial
  exact ⟨k, o, h1, h2, h3, hQ⟩
theorem lw_frame {s t : State} {o : Outcome} {args : Array Value} (h : Framed s o t [] 600002 7302232) :
    Framed s o t (fieldLocs frame_1_writes args s ++ arrayLocs frame_1_arrays args s ++ staticLocs frame_1_statics s) 600002 7302232 := h
theorem lw_limb (L : Cond) (hL : ∀ (args : Array Value) (s t : State), L.after args s (.returned (some (.int 1))) t = true) :
    ArmFor flags0 classFile x code maxLocals ret World_1 tables_1 room_1 Calls_1 rest_1 Pre_1
      (fun tb e a s o t => postC L tb e a s o t ∧ Framed s o t (fieldLocs frame_1_writes a s ++ arrayLocs frame_1_arrays a s ++ staticLocs frame_1_statics s) 600002 7302232) := by
  intro l hfl _ _ p e ha hc hk s m args below hf hfit hheap happ hpre
  have hl9 : l.stackTraces = false := by unfold Launch.stackTraces; rw [hfl]; decide
  obtain ⟨k, o, h1, h2, h3, rfl, hF⟩ := lw_comes l hl9 p e ha hc hk s m args below hf hfit hheap happ hpre
  exact ⟨k, _, h1, h2, h3, hL args s _, lw_frame hF⟩
theorem i_vc : Claimed_1_1 ∧ Claimed_1_2 := ⟨lw_limb limb_1_1 (fun args s t => by simp [limb_1_1, Cond.after, Cond.holds, Cond.value]), lw_limb limb_1_2 (fun args s t => Cond.after_iff.mpr (by
  first | (rw [show limb_1_2 = Cond.eq .result (.int 1) from rfl, Cond.eq_ints (x := 1) (y := 1) rfl rfl]; simp; done) | (simp [limb_1_2, Cond.value, Term.eval]; done)))⟩


