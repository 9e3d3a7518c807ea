/-! KeyHall(int), size; Rows -/
set_option maxHeartbeats 4000000 in
set_option maxRecDepth 100000 in
theorem c_X1_init (l : Launch) (D : va_G) (cI cJ : ClassId) (x : Nat) (srt : Int32) (sz : Nat) : Met l yX1_init wsX1_init { frames := 2, cells := 21, slots := 8149, locals := 44 } (va_Pc [.ref x, .int srt] (wP D cI cJ [(x, .inr (1, [.null, .null, .null, .null, .null, .null, .null, .long 0, .long 0]))] sz)) (va_Qv (fun (u : Nat × Nat × Nat × Nat × Nat × Nat × Nat × Nat × Nat × Nat × Nat × Nat × Nat × Nat × Nat × Nat × Nat × Nat × Nat × Nat × Nat) => True) (wB D cI cJ (va_A [(x, .inr (1, [.null, .null, .null, .null, .null, .null, .null, .long 0, .long 0]))] sz) (fun (s0, ka0, va0, s1, ka1, va1, s2, ka2, va2, s3, ka3, va3, s4, ka4, va4, s5, ka5, va5, s6, ka6, va6) => [(x, .inr (1, [.ref s0, .ref s1, .ref s2, .ref s3, .ref s4, .ref s5, .ref s6, .long 0, .long 0])), (s0, .inr (0, [.ref ka0, .ref va0, .int (nI 0)])), (ka0, .inl (cJ, 512, .inr (.inl (fun _ => 0)))), (va0, .inl (cJ, 512, .inr (.inl (fun _ => 0)))), (s1, .inr (0, [.ref ka1, .ref va1, .int (nI 0)])), (ka1, .inl (cJ, 512, .inr (.inl (fun _ => 0)))), (va1, .inl (cJ, 512, .inr (.inl (fun _ => 0)))), (s2, .inr (0, [.ref ka2, .ref va2, .int (nI 0)])), (ka2, .inl (cJ, 512, .inr (.inl (fun _ => 0)))), (va2, .inl (cJ, 512, .inr (.inl (fun _ => 0)))), (s3, .inr (0, [.ref ka3, .ref va3, .int (nI 0)])), (ka3, .inl (cJ, 512, .inr (.inl (fun _ => 0)))), (va3, .inl (cJ, 512, .inr (.inl (fun _ => 0)))), (s4, .inr (0, [.ref ka4, .ref va4, .int (nI 0)])), (ka4, .inl (cJ, 512, .inr (.inl (fun _ => 0)))), (va4, .inl (cJ, 512, .inr (.inl (fun _ => 0)))), (s5, .inr (0, [.ref ka5, .ref va5, .int (nI 0)])), (ka5, .inl (cJ, 752, .inr (.inl (fun _ => 0)))), (va5, .inl (cJ, 752, .inr (.inl (fun _ => 0)))), (s6, .inr (0, [.ref ka6, .ref va6, .int (nI 0)])), (ka6, .inl (cJ, 752, .inr (.inl (fun _ => 0)))), (va6, .inl (cJ, 752, .inr (.inl (fun _ => 0))))])) (va_A [(x, .inr (1, [.null, .null, .null, .null, .null, .null, .null, .long 0, .long 0]))] sz)) 21 8149 (va_A [(x, .inr (1, [.null, .null, .null, .null, .null, .null, .null, .long 0, .long 0]))] sz) := by
  refine Met.ofW (cc := cX1_init) (maxL := 2) (ret := none) (by decide) rfl ?_
  intro p e s m args below meth c s₁ B hml hv
  obtain ⟨rfl, hsz, hP, hK, hD0⟩ := hv
  have hx := B.exec
  have hb := B.bytes
  have hr := B.returns
  have hts := atoms_spec (ws := wsX1_init) B.pre
  have hown : s.vm.findClass RX1 = some m.cls := findClass_of_methodNamed B.named
  have hlocks := B.notSynchronized
  have hin : meth.name = "<init>" := (name_of_methodNamed B.named B.method).1
  have lk0 := hts (.methodLink RX1 3 objectInit) (by decide +kernel)
  have lk1 := hts (.instanceMethod objectInit) (by decide +kernel)
  have lk2 := hts (.code objectInit ⟨#[0xb1]⟩ 1 none) (by decide +kernel)
  have lk3 : ∀ w ∈ wsX00, w ∈ wsX1_init := by decide +kernel
  have lk4 := hts (.classLink RX1 9 RX0) (by decide +kernel)
  have lk5 := hts (.instantiable RX0 3) (by decide +kernel)
  have lk6 := hts (.initialized RX0) (by decide +kernel)
  have lk7 := hts (.methodLink RX1 11 yX0_init) (by decide +kernel)
  have lk8 := hts (.instanceMethod yX0_init) (by decide +kernel)
  have lk9 := hts (.fieldLink RX1 14 "KeyHall" "counts" "LKeyHall$Sorted;") (by decide +kernel)
  have lk10 : ∀ w ∈ wsX10, w ∈ wsX1_init := by decide +kernel
  have lk11 := hts (.fieldLink RX1 18 "KeyHall" "coming" "LKeyHall$Sorted;") (by decide +kernel)
  have lk12 := hts (.fieldLink RX1 21 "KeyHall" "rising" "LKeyHall$Sorted;") (by decide +kernel)
  have lk13 := hts (.fieldLink RX1 24 "KeyHall" "lines" "LKeyHall$Sorted;") (by decide +kernel)
  have lk14 := hts (.fieldLink RX1 27 "KeyHall" "table" "LKeyHall$Sorted;") (by decide +kernel)
  have lk15 := hts (.fieldLink RX1 30 "KeyHall" "points" "LKeyHall$Sorted;") (by decide +kernel)
  have lk16 := hts (.fieldLink RX1 33 "KeyHall" "tally" "LKeyHall$Sorted;") (by decide +kernel)
  have lk17 := hts (.fieldLink RX1 36 "KeyHall" "tape" "J") (by decide +kernel)
  have lk18 := hts (.fieldLink RX1 40 "KeyHall" "turn" "J") (by decide +kernel)
  subst hsz
  have hD := hD0.self (sz := s.heap.size)
  generalize hAe : va_A [(x, .inr (1, [.null, .null, .null, .null, .null, .null, .null, .long 0, .long 0]))] s.heap.size = A at hD ⊢
  have hA : ∀ q : Nat, s.heap.size ≤ q → A q := fun q h => by rw [← hAe]; exact Or.inr h
  have hS : va_S A s.heap s.heap [] := va_S.rf
  have hP : va_P D vwCl [(x, .inr (1, [.null, .null, .null, .null, .null, .null, .null, .long 0, .long 0]))] s.heap := hP
  have hl := lv_entry ([.ref x, .int srt]) (n := 2) (Nat.le_of_ble_eq_true rfl)
  rw [lg_entry_eq]
  generalize (lg_sl ([.ref x, .int srt]) ++ List.replicate (2 - (lg_sl ([.ref x, .int srt])).length) Slot.unset).toArray = ls at hl ⊢
  have hl : lv_has ls 2 [(0, .ref x), (1, .int srt)] := hl
  refine lv_aload_n hx hb dX1_init_0 rfl (lv_at hl 0 rfl) ?_
  refine W.objInit hx hb hown lk0 lk1 lk2 rfl (by rw [hml]; exact hl.1) rfl dX1_init_1 (Nat.le_of_ble_eq_true rfl) (Nat.le_of_ble_eq_true rfl) ?_
  refine W.eq (g2 := F0 m 4 ls []) rfl ?_
  refine lv_aload_n hx hb dX1_init_4 rfl (lv_at hl 0 rfl) ?_
  refine va_new (ci := 0) (fs := [.null, .null, .int (nI 0)]) (C := RX0) (T := TX0) (N := 3) hx hb hts lk3 tyX0 tyX0_ok hown lk4 lk5 lk6 hK hP hD hS hA rfl (by decide) (by show _ ≤ 21; omega) (by show _ ≤ 8149; omega) dX1_init_5 (fun q_1 H hP hD hS => ?_)
  have hP : va_P D vwCl [(x, .inr (1, [.null, .null, .null, .null, .null, .null, .null, .long 0, .long 0])), (q_1, .inr (0, [.null, .null, .int (nI 0)]))] H := hP
  have hD : va_D A [(x, .inr (1, [.null, .null, .null, .null, .null, .null, .null, .long 0, .long 0])), (q_1, .inr (0, [.null, .null, .int (nI 0)]))] := hD
  refine lv_dup hx hb dX1_init_8 rfl ?_
  refine lv_sipush (v := nI 512) hx hb dX1_init_9 (by decide) ?_
  have hFc := va_free (wc := [(q_1, .inr (0, [.null, .null, .int (nI 0)]))]) hD hS hA [1] rfl
  refine va_callv (va_runI (As := [.int (nI 512)]) (rest := [.ref q_1, .ref x]) ⟨hx, hb, hml, hown, hts⟩ (c_X0_init l D cI cJ q_1 512 (by omega) H.size) (cwI 1 hts gX1_init_X0_init rfl rfl rfl lk6 lk7 lk8 rfl (by decide +kernel) ⟨Nat.le_of_ble_eq_true rfl, Nat.le_of_ble_eq_true rfl⟩) (z_preSw hK hP hD [1] (by decide) rfl rfl) rfl rfl hl.1 rfl (lv_room (Nat.le_of_ble_eq_true rfl)) dX1_init_12 ⟨by show _ ≤ 21; omega, by show _ ≤ 8149; omega⟩) hS (fun q _ h => hFc q h) hFc (fun u_3 t H1 locs ht hvm hr_2 hB hzz1 hkk1 hS => ?_)
  obtain ⟨ka4, va4⟩ := u_3
  obtain ⟨hP1, hK1, hD1⟩ := hB
  rw [ht] at hP1
  try dsimp only at hr_2
  obtain ⟨hP, hD⟩ := va_join (wr := [(x, .inr (1, [.null, .null, .null, .null, .null, .null, .null, .long 0, .long 0]))]) (w1 := [(q_1, .inr (0, [.ref ka4, .ref va4, .int (nI 0)])), (ka4, .inl (cJ, 512, .inr (.inl (fun _ => 0)))), (va4, .inl (cJ, 512, .inr (.inl (fun _ => 0))))]) hP hD [1] [0] rfl rfl (by decide) (by decide) hkk1 hFc hP1 hD1
  generalize H1 = H at hP hS ⊢
  have hP : va_P D vwCl [(x, .inr (1, [.null, .null, .null, .null, .null, .null, .null, .long 0, .long 0])), (q_1, .inr (0, [.ref ka4, .ref va4, .int (nI 0)])), (ka4, .inl (cJ, 512, .inr (.inl (fun _ => 0)))), (va4, .inl (cJ, 512, .inr (.inl (fun _ => 0))))] H := hP.sub [0, 1, 2, 3] rfl
  have hD : va_D A [(x, .inr (1, [.null, .null, .null, .null, .null, .null, .null, .long 0, .long 0])), (q_1, .inr (0, [.ref ka4, .ref va4, .int (nI 0)])), (ka4, .inl (cJ, 512, .inr (.inl (fun _ => 0)))), (va4, .inl (cJ, 512, .inr (.inl (fun _ => 0))))] := hD.sub [0, 1, 2, 3] (by decide) rfl
  refine va_putF (D := D) (ci := 1) (v := .ref q_1) (ty := .object "KeyHall$Sorted") (C := RX1) (T := TX1) (N := 9) hx hb hts lk10 tyX1 tyX1_ok nmX1 hown hK hP hD hS 0 rfl rfl 0 (by decide) lk9 (fun _ h9 => h9) rfl hin rfl (by decide +kernel) rfl rfl (Nat.le_of_ble_eq_true rfl) dX1_init_15 (fun H locs hP hD hS => ?_)
  have hP : va_P D vwCl [(x, .inr (1, [.ref q_1, .null, .null, .null, .null, .null, .null, .long 0, .long 0])), (q_1, .inr (0, [.ref ka4, .ref va4, .int (nI 0)])), (ka4, .inl (cJ, 512, .inr (.inl (fun _ => 0)))), (va4, .inl (cJ, 512, .inr (.inl (fun _ => 0))))] H := hP
  have hD : va_D A [(x, .inr (1, [.ref q_1, .null, .null, .null, .null, .null, .null, .long 0, .long 0])), (q_1, .inr (0, [.ref ka4, .ref va4, .int (nI 0)])), (ka4, .inl (cJ, 512, .inr (.inl (fun _ => 0)))), (va4, .inl (cJ, 512, .inr (.inl (fun _ => 0))))] := hD
  refine lv_aload_n hx hb dX1_init_18 rfl (lv_at hl 0 rfl) ?_
  refine va_new (ci := 0) (fs := [.null, .null, .int (nI 0)]) (C := RX0) (T := TX0) (N := 3) hx hb hts lk3 tyX0 tyX0_ok hown lk4 lk5 lk6 hK hP hD hS hA rfl (by decide) (by show _ ≤ 21; omega) (by show _ ≤ 8149; omega) dX1_init_19 (fun q_5 H hP hD hS => ?_)
  have hP : va_P D vwCl [(x, .inr (1, [.ref q_1, .null, .null, .null, .null, .null, .null, .long 0, .long 0])), (q_1, .inr (0, [.ref ka4, .ref va4, .int (nI 0)])), (ka4, .inl (cJ, 512, .inr (.inl (fun _ => 0)))), (va4, .inl (cJ, 512, .inr (.inl (fun _ => 0)))), (q_5, .inr (0, [.null, .null, .int (nI 0)]))] H := hP
  have hD : va_D A [(x, .inr (1, [.ref q_1, .null, .null, .null, .null, .null, .null, .long 0, .long 0])), (q_1, .inr (0, [.ref ka4, .ref va4, .int (nI 0)])), (ka4, .inl (cJ, 512, .inr (.inl (fun _ => 0)))), (va4, .inl (cJ, 512, .inr (.inl (fun _ => 0)))), (q_5, .inr (0, [.null, .null, .int (nI 0)]))] := hD
  refine lv_dup hx hb dX1_init_22 rfl ?_
  refine lv_sipush (v := nI 512) hx hb dX1_init_23 (by decide) ?_
  have hFc := va_free (wc := [(q_5, .inr (0, [.null, .null, .int (nI 0)]))]) hD hS hA [4] rfl
  refine va_callv (va_runI (As := [.int (nI 512)]) (rest := [.ref q_5, .ref x]) ⟨hx, hb, hml, hown, hts⟩ (c_X0_init l D cI cJ q_5 512 (by omega) H.size) (cwI 1 hts gX1_init_X0_init rfl rfl rfl lk6 lk7 lk8 rfl (by decide +kernel) ⟨Nat.le_of_ble_eq_true rfl, Nat.le_of_ble_eq_true rfl⟩) (z_preSw hK hP hD [4] (by decide) rfl rfl) rfl rfl hl.1 rfl (lv_room (Nat.le_of_ble_eq_true rfl)) dX1_init_26 ⟨by show _ ≤ 21; omega, by show _ ≤ 8149; omega⟩) hS (fun q _ h => hFc q h) hFc (fun u_7 t H1 locs ht hvm hr_6 hB hzz1 hkk1 hS => ?_)
  obtain ⟨ka8, va8⟩ := u_7
  obtain ⟨hP1, hK1, hD1⟩ := hB
  rw [ht] at hP1
  try dsimp only at hr_6
  obtain ⟨hP, hD⟩ := va_join (wr := [(x, .inr (1, [.ref q_1, .null, .null, .null, .null, .null, .null, .long 0, .long 0])), (q_1, .inr (0, [.ref ka4, .ref va4, .int (nI 0)])), (ka4, .inl (cJ, 512, .inr (.inl (fun _ => 0)))), (va4, .inl (cJ, 512, .inr (.inl (fun _ => 0))))]) (w1 := [(q_5, .inr (0, [.ref ka8, .ref va8, .int (nI 0)])), (ka8, .inl (cJ, 512, .inr (.inl (fun _ => 0)))), (va8, .inl (cJ, 512, .inr (.inl (fun _ => 0))))]) hP hD [4] [0, 1, 2, 3] rfl rfl (by decide) (by decide) hkk1 hFc hP1 hD1
  generalize H1 = H at hP hS ⊢
  have hP : va_P D vwCl [(x, .inr (1, [.ref q_1, .null, .null, .null, .null, .null, .null, .long 0, .long 0])), (q_1, .inr (0, [.ref ka4, .ref va4, .int (nI 0)])), (ka4, .inl (cJ, 512, .inr (.inl (fun _ => 0)))), (va4, .inl (cJ, 512, .inr (.inl (fun _ => 0)))), (q_5, .inr (0, [.ref ka8, .ref va8, .int (nI 0)])), (ka8, .inl (cJ, 512, .inr (.inl (fun _ => 0)))), (va8, .inl (cJ, 512, .inr (.inl (fun _ => 0))))] H := hP.sub [0, 1, 2, 3, 4, 5, 6] rfl
  have hD : va_D A [(x, .inr (1, [.ref q_1, .null, .null, .null, .null, .null, .null, .long 0, .long 0])), (q_1, .inr (0, [.ref ka4, .ref va4, .int (nI 0)])), (ka4, .inl (cJ, 512, .inr (.inl (fun _ => 0)))), (va4, .inl (cJ, 512, .inr (.inl (fun _ => 0)))), (q_5, .inr (0, [.ref ka8, .ref va8, .int (nI 0)])), (ka8, .inl (cJ, 512, .inr (.inl (fun _ => 0)))), (va8, .inl (cJ, 512, .inr (.inl (fun _ => 0))))] := hD.sub [0, 1, 2, 3, 4, 5, 6] (by decide) rfl
  refine va_putF (D := D) (ci := 1) (v := .ref q_5) (ty := .object "KeyHall$Sorted") (C := RX1) (T := TX1) (N := 9) hx hb hts lk10 tyX1 tyX1_ok nmX1 hown hK hP hD hS 0 rfl rfl 1 (by decide) lk11 (fun _ h9 => h9) rfl hin rfl (by decide +kernel) rfl rfl (Nat.le_of_ble_eq_true rfl) dX1_init_29 (fun H locs hP hD hS => ?_)
  have hP : va_P D vwCl [(x, .inr (1, [.ref q_1, .ref q_5, .null, .null, .null, .null, .null, .long 0, .long 0])), (q_1, .inr (0, [.ref ka4, .ref va4, .int (nI 0)])), (ka4, .inl (cJ, 512, .inr (.inl (fun _ => 0)))), (va4, .inl (cJ, 512, .inr (.inl (fun _ => 0)))), (q_5, .inr (0, [.ref ka8, .ref va8, .int (nI 0)])), (ka8, .inl (cJ, 512, .inr (.inl (fun _ => 0)))), (va8, .inl (cJ, 512, .inr (.inl (fun _ => 0))))] H := hP
  have hD : va_D A [(x, .inr (1, [.ref q_1, .ref q_5, .null, .null, .null, .null, .null, .long 0, .long 0])), (q_1, .inr (0, [.ref ka4, .ref va4, .int (nI 0)])), (ka4, .inl (cJ, 512, .inr (.inl (fun _ => 0)))), (va4, .inl (cJ, 512, .inr (.inl (fun _ => 0)))), (q_5, .inr (0, [.ref ka8, .ref va8, .int (nI 0)])), (ka8, .inl (cJ, 512, .inr (.inl (fun _ => 0)))), (va8, .inl (cJ, 512, .inr (.inl (fun _ => 0))))] := hD
  refine lv_aload_n hx hb dX1_init_32 rfl (lv_at hl 0 rfl) ?_
  refine va_new (ci := 0) (fs := [.null, .null, .int (nI 0)]) (C := RX0) (T := TX0) (N := 3) hx hb hts lk3 tyX0 tyX0_ok hown lk4 lk5 lk6 hK hP hD hS hA rfl (by decide) (by show _ ≤ 21; omega) (by show _ ≤ 8149; omega) dX1_init_33 (fun q_9 H hP hD hS => ?_)
  have hP : va_P D vwCl [(x, .inr (1, [.ref q_1, .ref q_5, .null, .null, .null, .null, .null, .long 0, .long 0])), (q_1, .inr (0, [.ref ka4, .ref va4, .int (nI 0)])), (ka4, .inl (cJ, 512, .inr (.inl (fun _ => 0)))), (va4, .inl (cJ, 512, .inr (.inl (fun _ => 0)))), (q_5, .inr (0, [.ref ka8, .ref va8, .int (nI 0)])), (ka8, .inl (cJ, 512, .inr (.inl (fun _ => 0)))), (va8, .inl (cJ, 512, .inr (.inl (fun _ => 0)))), (q_9, .inr (0, [.null, .null, .int (nI 0)]))] H := hP
  have hD : va_D A [(x, .inr (1, [.ref q_1, .ref q_5, .null, .null, .null, .null, .null, .long 0, .long 0])), (q_1, .inr (0, [.ref ka4, .ref va4, .int (nI 0)])), (ka4, .inl (cJ, 512, .inr (.inl (fun _ => 0)))), (va4, .inl (cJ, 512, .inr (.inl (fun _ => 0)))), (q_5, .inr (0, [.ref ka8, .ref va8, .int (nI 0)])), (ka8, .inl (cJ, 512, .inr (.inl (fun _ => 0)))), (va8, .inl (cJ, 512, .inr (.inl (fun _ => 0)))), (q_9, .inr (0, [.null, .null, .int (nI 0)]))] := hD
  refine lv_dup hx hb dX1_init_36 rfl ?_
  refine lv_sipush (v := nI 512) hx hb dX1_init_37 (by decide) ?_
  have hFc := va_free (wc := [(q_9, .inr (0, [.null, .null, .int (nI 0)]))]) hD hS hA [7] rfl
  refine va_callv (va_runI (As := [.int (nI 512)]) (rest := [.ref q_9, .ref x]) ⟨hx, hb, hml, hown, hts⟩ (c_X0_init l D cI cJ q_9 512 (by omega) H.size) (cwI 1 hts gX1_init_X0_init rfl rfl rfl lk6 lk7 lk8 rfl (by decide +kernel) ⟨Nat.le_of_ble_eq_true rfl, Nat.le_of_ble_eq_true rfl⟩) (z_preSw hK hP hD [7] (by decide) rfl rfl) rfl rfl hl.1 rfl (lv_room (Nat.le_of_ble_eq_true rfl)) dX1_init_40 ⟨by show _ ≤ 21; omega, by show _ ≤ 8149; omega⟩) hS (fun q _ h => hFc q h) hFc (fun u_11 t H1 locs ht hvm hr_10 hB hzz1 hkk1 hS => ?_)
  obtain ⟨ka12, va12⟩ := u_11
  obtain ⟨hP1, hK1, hD1⟩ := hB
  rw [ht] at hP1
  try dsimp only at hr_10
  obtain ⟨hP, hD⟩ := va_join (wr := [(x, .inr (1, [.ref q_1, .ref q_5, .null, .null, .null, .null, .null, .long 0, .long 0])), (q_1, .inr (0, [.ref ka4, .ref va4, .int (nI 0)])), (ka4, .inl (cJ, 512, .inr (.inl (fun _ => 0)))), (va4, .inl (cJ, 512, .inr (.inl (fun _ => 0)))), (q_5, .inr (0, [.ref ka8, .ref va8, .int (nI 0)])), (ka8, .inl (cJ, 512, .inr (.inl (fun _ => 0)))), (va8, .inl (cJ, 512, .inr (.inl (fun _ => 0))))]) (w1 := [(q_9, .inr (0, [.ref ka12, .ref va12, .int (nI 0)])), (ka12, .inl (cJ, 512, .inr (.inl (fun _ => 0)))), (va12, .inl (cJ, 512, .inr (.inl (fun _ => 0))))]) hP hD [7] [0, 1, 2, 3, 4, 5, 6] rfl rfl (by decide) (by decide) hkk1 hFc hP1 hD1
  generalize H1 = H at hP hS ⊢
  have hP : va_P D vwCl [(x, .inr (1, [.ref q_1, .ref q_5, .null, .null, .null, .null, .null, .long 0, .long 0])), (q_1, .inr (0, [.ref ka4, .ref va4, .int (nI 0)])), (ka4, .inl (cJ, 512, .inr (.inl (fun _ => 0)))), (va4, .inl (cJ, 512, .inr (.inl (fun _ => 0)))), (q_5, .inr (0, [.ref ka8, .ref va8, .int (nI 0)])), (ka8, .inl (cJ, 512, .inr (.inl (fun _ => 0)))), (va8, .inl (cJ, 512, .inr (.inl (fun _ => 0)))), (q_9, .inr (0, [.ref ka12, .ref va12, .int (nI 0)])), (ka12, .inl (cJ, 512, .inr (.inl (fun _ => 0)))), (va12, .inl (cJ, 512, .inr (.inl (fun _ => 0))))] H := hP.sub [0, 1, 2, 3, 4, 5, 6, 7, 8, 9] rfl
  have hD : va_D A [(x, .inr (1, [.ref q_1, .ref q_5, .null, .null, .null, .null, .null, .long 0, .long 0])), (q_1, .inr (0, [.ref ka4, .ref va4, .int (nI 0)])), (ka4, .inl (cJ, 512, .inr (.inl (fun _ => 0)))), (va4, .inl (cJ, 512, .inr (.inl (fun _ => 0)))), (q_5, .inr (0, [.ref ka8, .ref va8, .int (nI 0)])), (ka8, .inl (cJ, 512, .inr (.inl (fun _ => 0)))), (va8, .inl (cJ, 512, .inr (.inl (fun _ => 0)))), (q_9, .inr (0, [.ref ka12, .ref va12, .int (nI 0)])), (ka12, .inl (cJ, 512, .inr (.inl (fun _ => 0)))), (va12, .inl (cJ, 512, .inr (.inl (fun _ => 0))))] := hD.sub [0, 1, 2, 3, 4, 5, 6, 7, 8, 9] (by decide) rfl
  refine va_putF (D := D) (ci := 1) (v := .ref q_9) (ty := .object "KeyHall$Sorted") (C := RX1) (T := TX1) (N := 9) hx hb hts lk10 tyX1 tyX1_ok nmX1 hown hK hP hD hS 0 rfl rfl 2 (by decide) lk12 (fun _ h9 => h9) rfl hin rfl (by decide +kernel) rfl rfl (Nat.le_of_ble_eq_true rfl) dX1_init_43 (fun H locs hP hD hS => ?_)
  have hP : va_P D vwCl [(x, .inr (1, [.ref q_1, .ref q_5, .ref q_9, .null, .null, .null, .null, .long 0, .long 0])), (q_1, .inr (0, [.ref ka4, .ref va4, .int (nI 0)])), (ka4, .inl (cJ, 512, .inr (.inl (fun _ => 0)))), (va4, .inl (cJ, 512, .inr (.inl (fun _ => 0)))), (q_5, .inr (0, [.ref ka8, .ref va8, .int (nI 0)])), (ka8, .inl (cJ, 512, .inr (.inl (fun _ => 0)))), (va8, .inl (cJ, 512, .inr (.inl (fun _ => 0)))), (q_9, .inr (0, [.ref ka12, .ref va12, .int (nI 0)])), (ka12, .inl (cJ, 512, .inr (.inl (fun _ => 0)))), (va12, .inl (cJ, 512, .inr (.inl (fun _ => 0))))] H := hP
  have hD : va_D A [(x, .inr (1, [.ref q_1, .ref q_5, .ref q_9, .null, .null, .null, .null, .long 0, .long 0])), (q_1, .inr (0, [.ref ka4, .ref va4, .int (nI 0)])), (ka4, .inl (cJ, 512, .inr (.inl (fun _ => 0)))), (va4, .inl (cJ, 512, .inr (.inl (fun _ => 0)))), (q_5, .inr (0, [.ref ka8, .ref va8, .int (nI 0)])), (ka8, .inl (cJ, 512, .inr (.inl (fun _ => 0)))), (va8, .inl (cJ, 512, .inr (.inl (fun _ => 0)))), (q_9, .inr (0, [.ref ka12, .ref va12, .int (nI 0)])), (ka12, .inl (cJ, 512, .inr (.inl (fun _ => 0)))), (va12, .inl (cJ, 512, .inr (.inl (fun _ => 0))))] := hD
  refine lv_aload_n hx hb dX1_init_46 rfl (lv_at hl 0 rfl) ?_
  refine va_new (ci := 0) (fs := [.null, .null, .int (nI 0)]) (C := RX0) (T := TX0) (N := 3) hx hb hts lk3 tyX0 tyX0_ok hown lk4 lk5 lk6 hK hP hD hS hA rfl (by decide) (by show _ ≤ 21; omega) (by show _ ≤ 8149; omega) dX1_init_47 (fun q_13 H hP hD hS => ?_)
  have hP : va_P D vwCl [(x, .inr (1, [.ref q_1, .ref q_5, .ref q_9, .null, .null, .null, .null, .long 0, .long 0])), (q_1, .inr (0, [.ref ka4, .ref va4, .int (nI 0)])), (ka4, .inl (cJ, 512, .inr (.inl (fun _ => 0)))), (va4, .inl (cJ, 512, .inr (.inl (fun _ => 0)))), (q_5, .inr (0, [.ref ka8, .ref va8, .int (nI 0)])), (ka8, .inl (cJ, 512, .inr (.inl (fun _ => 0)))), (va8, .inl (cJ, 512, .inr (.inl (fun _ => 0)))), (q_9, .inr (0, [.ref ka12, .ref va12, .int (nI 0)])), (ka12, .inl (cJ, 512, .inr (.inl (fun _ => 0)))), (va12, .inl (cJ, 512, .inr (.inl (fun _ => 0)))), (q_13, .inr (0, [.null, .null, .int (nI 0)]))] H := hP
  have hD : va_D A [(x, .inr (1, [.ref q_1, .ref q_5, .ref q_9, .null, .null, .null, .null, .long 0, .long 0])), (q_1, .inr (0, [.ref ka4, .ref va4, .int (nI 0)])), (ka4, .inl (cJ, 512, .inr (.inl (fun _ => 0)))), (va4, .inl (cJ, 512, .inr (.inl (fun _ => 0)))), (q_5, .inr (0, [.ref ka8, .ref va8, .int (nI 0)])), (ka8, .inl (cJ, 512, .inr (.inl (fun _ => 0)))), (va8, .inl (cJ, 512, .inr (.inl (fun _ => 0)))), (q_9, .inr (0, [.ref ka12, .ref va12, .int (nI 0)])), (ka12, .inl (cJ, 512, .inr (.inl (fun _ => 0)))), (va12, .inl (cJ, 512, .inr (.inl (fun _ => 0)))), (q_13, .inr (0, [.null, .null, .int (nI 0)]))] := hD
  refine lv_dup hx hb dX1_init_50 rfl ?_
  refine lv_sipush (v := nI 512) hx hb dX1_init_51 (by decide) ?_
  have hFc := va_free (wc := [(q_13, .inr (0, [.null, .null, .int (nI 0)]))]) hD hS hA [10] rfl
  refine va_callv (va_runI (As := [.int (nI 512)]) (rest := [.ref q_13, .ref x]) ⟨hx, hb, hml, hown, hts⟩ (c_X0_init l D cI cJ q_13 512 (by omega) H.size) (cwI 1 hts gX1_init_X0_init rfl rfl rfl lk6 lk7 lk8 rfl (by decide +kernel) ⟨Nat.le_of_ble_eq_true rfl, Nat.le_of_ble_eq_true rfl⟩) (z_preSw hK hP hD [10] (by decide) rfl rfl) rfl rfl hl.1 rfl (lv_room (Nat.le_of_ble_eq_true rfl)) dX1_init_54 ⟨by show _ ≤ 21; omega, by show _ ≤ 8149; omega⟩) hS (fun q _ h => hFc q h) hFc (fun u_15 t H1 locs ht hvm hr_14 hB hzz1 hkk1 hS => ?_)
  obtain ⟨ka16, va16⟩ := u_15
  obtain ⟨hP1, hK1, hD1⟩ := hB
  rw [ht] at hP1
  try dsimp only at hr_14
  obtain ⟨hP, hD⟩ := va_join (wr := [(x, .inr (1, [.ref q_1, .ref q_5, .ref q_9, .null, .null, .null, .null, .long 0, .long 0])), (q_1, .inr (0, [.ref ka4, .ref va4, .int (nI 0)])), (ka4, .inl (cJ, 512, .inr (.inl (fun _ => 0)))), (va4, .inl (cJ, 512, .inr (.inl (fun _ => 0)))), (q_5, .inr (0, [.ref ka8, .ref va8, .int (nI 0)])), (ka8, .inl (cJ, 512, .inr (.inl (fun _ => 0)))), (va8, .inl (cJ, 512, .inr (.inl (fun _ => 0)))), (q_9, .inr (0, [.ref ka12, .ref va12, .int (nI 0)])), (ka12, .inl (cJ, 512, .inr (.inl (fun _ => 0)))), (va12, .inl (cJ, 512, .inr (.inl (fun _ => 0))))]) (w1 := [(q_13, .inr (0, [.ref ka16, .ref va16, .int (nI 0)])), (ka16, .inl (cJ, 512, .inr (.inl (fun _ => 0)))), (va16, .inl (cJ, 512, .inr (.inl (fun _ => 0))))]) hP hD [10] [0, 1, 2, 3, 4, 5, 6, 7, 8, 9] rfl rfl (by decide) (by decide) hkk1 hFc hP1 hD1
  generalize H1 = H at hP hS ⊢
  have hP : va_P D vwCl [(x, .inr (1, [.ref q_1, .ref q_5, .ref q_9, .null, .null, .null, .null, .long 0, .long 0])), (q_1, .inr (0, [.ref ka4, .ref va4, .int (nI 0)])), (ka4, .inl (cJ, 512, .inr (.inl (fun _ => 0)))), (va4, .inl (cJ, 512, .inr (.inl (fun _ => 0)))), (q_5, .inr (0, [.ref ka8, .ref va8, .int (nI 0)])), (ka8, .inl (cJ, 512, .inr (.inl (fun _ => 0)))), (va8, .inl (cJ, 512, .inr (.inl (fun _ => 0)))), (q_9, .inr (0, [.ref ka12, .ref va12, .int (nI 0)])), (ka12, .inl (cJ, 512, .inr (.inl (fun _ => 0)))), (va12, .inl (cJ, 512, .inr (.inl (fun _ => 0)))), (q_13, .inr (0, [.ref ka16, .ref va16, .int (nI 0)])), (ka16, .inl (cJ, 512, .inr (.inl (fun _ => 0)))), (va16, .inl (cJ, 512, .inr (.inl (fun _ => 0))))] H := hP.sub [0, 1, 2, 3, 4, 5, 6, 7, 8, 9, 10, 11, 12] rfl
  have hD : va_D A [(x, .inr (1, [.ref q_1, .ref q_5, .ref q_9, .null, .null, .null, .null, .long 0, .long 0])), (q_1, .inr (0, [.ref ka4, .ref va4, .int (nI 0)])), (ka4, .inl (cJ, 512, .inr (.inl (fun _ => 0)))), (va4, .inl (cJ, 512, .inr (.inl (fun _ => 0)))), (q_5, .inr (0, [.ref ka8, .ref va8, .int (nI 0)])), (ka8, .inl (cJ, 512, .inr (.inl (fun _ => 0)))), (va8, .inl (cJ, 512, .inr (.inl (fun _ => 0)))), (q_9, .inr (0, [.ref ka12, .ref va12, .int (nI 0)])), (ka12, .inl (cJ, 512, .inr (.inl (fun _ => 0)))), (va12, .inl (cJ, 512, .inr (.inl (fun _ => 0)))), (q_13, .inr (0, [.ref ka16, .ref va16, .int (nI 0)])), (ka16, .inl (cJ, 512, .inr (.inl (fun _ => 0)))), (va16, .inl (cJ, 512, .inr (.inl (fun _ => 0))))] := hD.sub [0, 1, 2, 3, 4, 5, 6, 7, 8, 9, 10, 11, 12] (by decide) rfl
  refine va_putF (D := D) (ci := 1) (v := .ref q_13) (ty := .object "KeyHall$Sorted") (C := RX1) (T := TX1) (N := 9) hx hb hts lk10 tyX1 tyX1_ok nmX1 hown hK hP hD hS 0 rfl rfl 3 (by decide) lk13 (fun _ h9 => h9) rfl hin rfl (by decide +kernel) rfl rfl (Nat.le_of_ble_eq_true rfl) dX1_init_57 (fun H locs hP hD hS => ?_)
  have hP : va_P D vwCl [(x, .inr (1, [.ref q_1, .ref q_5, .ref q_9, .ref q_13, .null, .null, .null, .long 0, .long 0])), (q_1, .inr (0, [.ref ka4, .ref va4, .int (nI 0)])), (ka4, .inl (cJ, 512, .inr (.inl (fun _ => 0)))), (va4, .inl (cJ, 512, .inr (.inl (fun _ => 0)))), (q_5, .inr (0, [.ref ka8, .ref va8, .int (nI 0)])), (ka8, .inl (cJ, 512, .inr (.inl (fun _ => 0)))), (va8, .inl (cJ, 512, .inr (.inl (fun _ => 0)))), (q_9, .inr (0, [.ref ka12, .ref va12, .int (nI 0)])), (ka12, .inl (cJ, 512, .inr (.inl (fun _ => 0)))), (va12, .inl (cJ, 512, .inr (.inl (fun _ => 0)))), (q_13, .inr (0, [.ref ka16, .ref va16, .int (nI 0)])), (ka16, .inl (cJ, 512, .inr (.inl (fun _ => 0)))), (va16, .inl (cJ, 512, .inr (.inl (fun _ => 0))))] H := hP
  have hD : va_D A [(x, .inr (1, [.ref q_1, .ref q_5, .ref q_9, .ref q_13, .null, .null, .null, .long 0, .long 0])), (q_1, .inr (0, [.ref ka4, .ref va4, .int (nI 0)])), (ka4, .inl (cJ, 512, .inr (.inl (fun _ => 0)))), (va4, .inl (cJ, 512, .inr (.inl (fun _ => 0)))), (q_5, .inr (0, [.ref ka8, .ref va8, .int (nI 0)])), (ka8, .inl (cJ, 512, .inr (.inl (fun _ => 0)))), (va8, .inl (cJ, 512, .inr (.inl (fun _ => 0)))), (q_9, .inr (0, [.ref ka12, .ref va12, .int (nI 0)])), (ka12, .inl (cJ, 512, .inr (.inl (fun _ => 0)))), (va12, .inl (cJ, 512, .inr (.inl (fun _ => 0)))), (q_13, .inr (0, [.ref ka16, .ref va16, .int (nI 0)])), (ka16, .inl (cJ, 512, .inr (.inl (fun _ => 0)))), (va16, .inl (cJ, 512, .inr (.inl (fun _ => 0))))] := hD
  refine lv_aload_n hx hb dX1_init_60 rfl (lv_at hl 0 rfl) ?_
  refine va_new (ci := 0) (fs := [.null, .null, .int (nI 0)]) (C := RX0) (T := TX0) (N := 3) hx hb hts lk3 tyX0 tyX0_ok hown lk4 lk5 lk6 hK hP hD hS hA rfl (by decide) (by show _ ≤ 21; omega) (by show _ ≤ 8149; omega) dX1_init_61 (fun q_17 H hP hD hS => ?_)
  have hP : va_P D vwCl [(x, .inr (1, [.ref q_1, .ref q_5, .ref q_9, .ref q_13, .null, .null, .null, .long 0, .long 0])), (q_1, .inr (0, [.ref ka4, .ref va4, .int (nI 0)])), (ka4, .inl (cJ, 512, .inr (.inl (fun _ => 0)))), (va4, .inl (cJ, 512, .inr (.inl (fun _ => 0)))), (q_5, .inr (0, [.ref ka8, .ref va8, .int (nI 0)])), (ka8, .inl (cJ, 512, .inr (.inl (fun _ => 0)))), (va8, .inl (cJ, 512, .inr (.inl (fun _ => 0)))), (q_9, .inr (0, [.ref ka12, .ref va12, .int (nI 0)])), (ka12, .inl (cJ, 512, .inr (.inl (fun _ => 0)))), (va12, .inl (cJ, 512, .inr (.inl (fun _ => 0)))), (q_13, .inr (0, [.ref ka16, .ref va16, .int (nI 0)])), (ka16, .inl (cJ, 512, .inr (.inl (fun _ => 0)))), (va16, .inl (cJ, 512, .inr (.inl (fun _ => 0)))), (q_17, .inr (0, [.null, .null, .int (nI 0)]))] H := hP
  have hD : va_D A [(x, .inr (1, [.ref q_1, .ref q_5, .ref q_9, .ref q_13, .null, .null, .null, .long 0, .long 0])), (q_1, .inr (0, [.ref ka4, .ref va4, .int (nI 0)])), (ka4, .inl (cJ, 512, .inr (.inl (fun _ => 0)))), (va4, .inl (cJ, 512, .inr (.inl (fun _ => 0)))), (q_5, .inr (0, [.ref ka8, .ref va8, .int (nI 0)])), (ka8, .inl (cJ, 512, .inr (.inl (fun _ => 0)))), (va8, .inl (cJ, 512, .inr (.inl (fun _ => 0)))), (q_9, .inr (0, [.ref ka12, .ref va12, .int (nI 0)])), (ka12, .inl (cJ, 512, .inr (.inl (fun _ => 0)))), (va12, .inl (cJ, 512, .inr (.inl (fun _ => 0)))), (q_13, .inr (0, [.ref ka16, .ref va16, .int (nI 0)])), (ka16, .inl (cJ, 512, .inr (.inl (fun _ => 0)))), (va16, .inl (cJ, 512, .inr (.inl (fun _ => 0)))), (q_17, .inr (0, [.null, .null, .int (nI 0)]))] := hD
  refine lv_dup hx hb dX1_init_64 rfl ?_
  refine lv_sipush (v := nI 512) hx hb dX1_init_65 (by decide) ?_
  have hFc := va_free (wc := [(q_17, .inr (0, [.null, .null, .int (nI 0)]))]) hD hS hA [13] rfl
  refine va_callv (va_runI (As := [.int (nI 512)]) (rest := [.ref q_17, .ref x]) ⟨hx, hb, hml, hown, hts⟩ (c_X0_init l D cI cJ q_17 512 (by omega) H.size) (cwI 1 hts gX1_init_X0_init rfl rfl rfl lk6 lk7 lk8 rfl (by decide +kernel) ⟨Nat.le_of_ble_eq_true rfl, Nat.le_of_ble_eq_true rfl⟩) (z_preSw hK hP hD [13] (by decide) rfl rfl) rfl rfl hl.1 rfl (lv_room (Nat.le_of_ble_eq_true rfl)) dX1_init_68 ⟨by show _ ≤ 21; omega, by show _ ≤ 8149; omega⟩) hS (fun q _ h => hFc q h) hFc (fun u_19 t H1 locs ht hvm hr_18 hB hzz1 hkk1 hS => ?_)
  obtain ⟨ka20, va20⟩ := u_19
  obtain ⟨hP1, hK1, hD1⟩ := hB
  rw [ht] at hP1
  try dsimp only at hr_18
  obtain ⟨hP, hD⟩ := va_join (wr := [(x, .inr (1, [.ref q_1, .ref q_5, .ref q_9, .ref q_13, .null, .null, .null, .long 0, .long 0])), (q_1, .inr (0, [.ref ka4, .ref va4, .int (nI 0)])), (ka4, .inl (cJ, 512, .inr (.inl (fun _ => 0)))), (va4, .inl (cJ, 512, .inr (.inl (fun _ => 0)))), (q_5, .inr (0, [.ref ka8, .ref va8, .int (nI 0)])), (ka8, .inl (cJ, 512, .inr (.inl (fun _ => 0)))), (va8, .inl (cJ, 512, .inr (.inl (fun _ => 0)))), (q_9, .inr (0, [.ref ka12, .ref va12, .int (nI 0)])), (ka12, .inl (cJ, 512, .inr (.inl (fun _ => 0)))), (va12, .inl (cJ, 512, .inr (.inl (fun _ => 0)))), (q_13, .inr (0, [.ref ka16, .ref va16, .int (nI 0)])), (ka16, .inl (cJ, 512, .inr (.inl (fun _ => 0)))), (va16, .inl (cJ, 512, .inr (.inl (fun _ => 0))))]) (w1 := [(q_17, .inr (0, [.ref ka20, .ref va20, .int (nI 0)])), (ka20, .inl (cJ, 512, .inr (.inl (fun _ => 0)))), (va20, .inl (cJ, 512, .inr (.inl (fun _ => 0))))]) hP hD [13] [0, 1, 2, 3, 4, 5, 6, 7, 8, 9, 10, 11, 12] rfl rfl (by decide) (by decide) hkk1 hFc hP1 hD1
  generalize H1 = H at hP hS ⊢
  have hP : va_P D vwCl [(x, .inr (1, [.ref q_1, .ref q_5, .ref q_9, .ref q_13, .null, .null, .null, .long 0, .long 0])), (q_1, .inr (0, [.ref ka4, .ref va4, .int (nI 0)])), (ka4, .inl (cJ, 512, .inr (.inl (fun _ => 0)))), (va4, .inl (cJ, 512, .inr (.inl (fun _ => 0)))), (q_5, .inr (0, [.ref ka8, .ref va8, .int (nI 0)])), (ka8, .inl (cJ, 512, .inr (.inl (fun _ => 0)))), (va8, .inl (cJ, 512, .inr (.inl (fun _ => 0)))), (q_9, .inr (0, [.ref ka12, .ref va12, .int (nI 0)])), (ka12, .inl (cJ, 512, .inr (.inl (fun _ => 0)))), (va12, .inl (cJ, 512, .inr (.inl (fun _ => 0)))), (q_13, .inr (0, [.ref ka16, .ref va16, .int (nI 0)])), (ka16, .inl (cJ, 512, .inr (.inl (fun _ => 0)))), (va16, .inl (cJ, 512, .inr (.inl (fun _ => 0)))), (q_17, .inr (0, [.ref ka20, .ref va20, .int (nI 0)])), (ka20, .inl (cJ, 512, .inr (.inl (fun _ => 0)))), (va20, .inl (cJ, 512, .inr (.inl (fun _ => 0))))] H := hP.sub [0, 1, 2, 3, 4, 5, 6, 7, 8, 9, 10, 11, 12, 13, 14, 15] rfl
  have hD : va_D A [(x, .inr (1, [.ref q_1, .ref q_5, .ref q_9, .ref q_13, .null, .null, .null, .long 0, .long 0])), (q_1, .inr (0, [.ref ka4, .ref va4, .int (nI 0)])), (ka4, .inl (cJ, 512, .inr (.inl (fun _ => 0)))), (va4, .inl (cJ, 512, .inr (.inl (fun _ => 0)))), (q_5, .inr (0, [.ref ka8, .ref va8, .int (nI 0)])), (ka8, .inl (cJ, 512, .inr (.inl (fun _ => 0)))), (va8, .inl (cJ, 512, .inr (.inl (fun _ => 0)))), (q_9, .inr (0, [.ref ka12, .ref va12, .int (nI 0)])), (ka12, .inl (cJ, 512, .inr (.inl (fun _ => 0)))), (va12, .inl (cJ, 512, .inr (.inl (fun _ => 0)))), (q_13, .inr (0, [.ref ka16, .ref va16, .int (nI 0)])), (ka16, .inl (cJ, 512, .inr (.inl (fun _ => 0)))), (va16, .inl (cJ, 512, .inr (.inl (fun _ => 0)))), (q_17, .inr (0, [.ref ka20, .ref va20, .int (nI 0)])), (ka20, .inl (cJ, 512, .inr (.inl (fun _ => 0)))), (va20, .inl (cJ, 512, .inr (.inl (fun _ => 0))))] := hD.sub [0, 1, 2, 3, 4, 5, 6, 7, 8, 9, 10, 11, 12, 13, 14, 15] (by decide) rfl
  refine va_putF (D := D) (ci := 1) (v := .ref q_17) (ty := .object "KeyHall$Sorted") (C := RX1) (T := TX1) (N := 9) hx hb hts lk10 tyX1 tyX1_ok nmX1 hown hK hP hD hS 0 rfl rfl 4 (by decide) lk14 (fun _ h9 => h9) rfl hin rfl (by decide +kernel) rfl rfl (Nat.le_of_ble_eq_true rfl) dX1_init_71 (fun H locs hP hD hS => ?_)
  have hP : va_P D vwCl [(x, .inr (1, [.ref q_1, .ref q_5, .ref q_9, .ref q_13, .ref q_17, .null, .null, .long 0, .long 0])), (q_1, .inr (0, [.ref ka4, .ref va4, .int (nI 0)])), (ka4, .inl (cJ, 512, .inr (.inl (fun _ => 0)))), (va4, .inl (cJ, 512, .inr (.inl (fun _ => 0)))), (q_5, .inr (0, [.ref ka8, .ref va8, .int (nI 0)])), (ka8, .inl (cJ, 512, .inr (.inl (fun _ => 0)))), (va8, .inl (cJ, 512, .inr (.inl (fun _ => 0)))), (q_9, .inr (0, [.ref ka12, .ref va12, .int (nI 0)])), (ka12, .inl (cJ, 512, .inr (.inl (fun _ => 0)))), (va12, .inl (cJ, 512, .inr (.inl (fun _ => 0)))), (q_13, .inr (0, [.ref ka16, .ref va16, .int (nI 0)])), (ka16, .inl (cJ, 512, .inr (.inl (fun _ => 0)))), (va16, .inl (cJ, 512, .inr (.inl (fun _ => 0)))), (q_17, .inr (0, [.ref ka20, .ref va20, .int (nI 0)])), (ka20, .inl (cJ, 512, .inr (.inl (fun _ => 0)))), (va20, .inl (cJ, 512, .inr (.inl (fun _ => 0))))] H := hP
  have hD : va_D A [(x, .inr (1, [.ref q_1, .ref q_5, .ref q_9, .ref q_13, .ref q_17, .null, .null, .long 0, .long 0])), (q_1, .inr (0, [.ref ka4, .ref va4, .int (nI 0)])), (ka4, .inl (cJ, 512, .inr (.inl (fun _ => 0)))), (va4, .inl (cJ, 512, .inr (.inl (fun _ => 0)))), (q_5, .inr (0, [.ref ka8, .ref va8, .int (nI 0)])), (ka8, .inl (cJ, 512, .inr (.inl (fun _ => 0)))), (va8, .inl (cJ, 512, .inr (.inl (fun _ => 0)))), (q_9, .inr (0, [.ref ka12, .ref va12, .int (nI 0)])), (ka12, .inl (cJ, 512, .inr (.inl (fun _ => 0)))), (va12, .inl (cJ, 512, .inr (.inl (fun _ => 0)))), (q_13, .inr (0, [.ref ka16, .ref va16, .int (nI 0)])), (ka16, .inl (cJ, 512, .inr (.inl (fun _ => 0)))), (va16, .inl (cJ, 512, .inr (.inl (fun _ => 0)))), (q_17, .inr (0, [.ref ka20, .ref va20, .int (nI 0)])), (ka20, .inl (cJ, 512, .inr (.inl (fun _ => 0)))), (va20, .inl (cJ, 512, .inr (.inl (fun _ => 0))))] := hD
  refine lv_aload_n hx hb dX1_init_74 rfl (lv_at hl 0 rfl) ?_
  refine va_new (ci := 0) (fs := [.null, .null, .int (nI 0)]) (C := RX0) (T := TX0) (N := 3) hx hb hts lk3 tyX0 tyX0_ok hown lk4 lk5 lk6 hK hP hD hS hA rfl (by decide) (by show _ ≤ 21; omega) (by show _ ≤ 8149; omega) dX1_init_75 (fun q_21 H hP hD hS => ?_)
  have hP : va_P D vwCl [(x, .inr (1, [.ref q_1, .ref q_5, .ref q_9, .ref q_13, .ref q_17, .null, .null, .long 0, .long 0])), (q_1, .inr (0, [.ref ka4, .ref va4, .int (nI 0)])), (ka4, .inl (cJ, 512, .inr (.inl (fun _ => 0)))), (va4, .inl (cJ, 512, .inr (.inl (fun _ => 0)))), (q_5, .inr (0, [.ref ka8, .ref va8, .int (nI 0)])), (ka8, .inl (cJ, 512, .inr (.inl (fun _ => 0)))), (va8, .inl (cJ, 512, .inr (.inl (fun _ => 0)))), (q_9, .inr (0, [.ref ka12, .ref va12, .int (nI 0)])), (ka12, .inl (cJ, 512, .inr (.inl (fun _ => 0)))), (va12, .inl (cJ, 512, .inr (.inl (fun _ => 0)))), (q_13, .inr (0, [.ref ka16, .ref va16, .int (nI 0)])), (ka16, .inl (cJ, 512, .inr (.inl (fun _ => 0)))), (va16, .inl (cJ, 512, .inr (.inl (fun _ => 0)))), (q_17, .inr (0, [.ref ka20, .ref va20, .int (nI 0)])), (ka20, .inl (cJ, 512, .inr (.inl (fun _ => 0)))), (va20, .inl (cJ, 512, .inr (.inl (fun _ => 0)))), (q_21, .inr (0, [.null, .null, .int (nI 0)]))] H := hP
  have hD : va_D A [(x, .inr (1, [.ref q_1, .ref q_5, .ref q_9, .ref q_13, .ref q_17, .null, .null, .long 0, .long 0])), (q_1, .inr (0, [.ref ka4, .ref va4, .int (nI 0)])), (ka4, .inl (cJ, 512, .inr (.inl (fun _ => 0)))), (va4, .inl (cJ, 512, .inr (.inl (fun _ => 0)))), (q_5, .inr (0, [.ref ka8, .ref va8, .int (nI 0)])), (ka8, .inl (cJ, 512, .inr (.inl (fun _ => 0)))), (va8, .inl (cJ, 512, .inr (.inl (fun _ => 0)))), (q_9, .inr (0, [.ref ka12, .ref va12, .int (nI 0)])), (ka12, .inl (cJ, 512, .inr (.inl (fun _ => 0)))), (va12, .inl (cJ, 512, .inr (.inl (fun _ => 0)))), (q_13, .inr (0, [.ref ka16, .ref va16, .int (nI 0)])), (ka16, .inl (cJ, 512, .inr (.inl (fun _ => 0)))), (va16, .inl (cJ, 512, .inr (.inl (fun _ => 0)))), (q_17, .inr (0, [.ref ka20, .ref va20, .int (nI 0)])), (ka20, .inl (cJ, 512, .inr (.inl (fun _ => 0)))), (va20, .inl (cJ, 512, .inr (.inl (fun _ => 0)))), (q_21, .inr (0, [.null, .null, .int (nI 0)]))] := hD
  refine lv_dup hx hb dX1_init_78 rfl ?_
  refine lv_sipush (v := nI 752) hx hb dX1_init_79 (by decide) ?_
  have hFc := va_free (wc := [(q_21, .inr (0, [.null, .null, .int (nI 0)]))]) hD hS hA [16] rfl
  refine va_callv (va_runI (As := [.int (nI 752)]) (rest := [.ref q_21, .ref x]) ⟨hx, hb, hml, hown, hts⟩ (c_X0_init l D cI cJ q_21 752 (by omega) H.size) (cwI 1 hts gX1_init_X0_init rfl rfl rfl lk6 lk7 lk8 rfl (by decide +kernel) ⟨Nat.le_of_ble_eq_true rfl, Nat.le_of_ble_eq_true rfl⟩) (z_preSw hK hP hD [16] (by decide) rfl rfl) rfl rfl hl.1 rfl (lv_room (Nat.le_of_ble_eq_true rfl)) dX1_init_82 ⟨by show _ ≤ 21; omega, by show _ ≤ 8149; omega⟩) hS (fun q _ h => hFc q h) hFc (fun u_23 t H1 locs ht hvm hr_22 hB hzz1 hkk1 hS => ?_)
  obtain ⟨ka24, va24⟩ := u_23
  obtain ⟨hP1, hK1, hD1⟩ := hB
  rw [ht] at hP1
  try dsimp only at hr_22
  obtain ⟨hP, hD⟩ := va_join (wr := [(x, .inr (1, [.ref q_1, .ref q_5, .ref q_9, .ref q_13, .ref q_17, .null, .null, .long 0, .long 0])), (q_1, .inr (0, [.ref ka4, .ref va4, .int (nI 0)])), (ka4, .inl (cJ, 512, .inr (.inl (fun _ => 0)))), (va4, .inl (cJ, 512, .inr (.inl (fun _ => 0)))), (q_5, .inr (0, [.ref ka8, .ref va8, .int (nI 0)])), (ka8, .inl (cJ, 512, .inr (.inl (fun _ => 0)))), (va8, .inl (cJ, 512, .inr (.inl (fun _ => 0)))), (q_9, .inr (0, [.ref ka12, .ref va12, .int (nI 0)])), (ka12, .inl (cJ, 512, .inr (.inl (fun _ => 0)))), (va12, .inl (cJ, 512, .inr (.inl (fun _ => 0)))), (q_13, .inr (0, [.ref ka16, .ref va16, .int (nI 0)])), (ka16, .inl (cJ, 512, .inr (.inl (fun _ => 0)))), (va16, .inl (cJ, 512, .inr (.inl (fun _ => 0)))), (q_17, .inr (0, [.ref ka20, .ref va20, .int (nI 0)])), (ka20, .inl (cJ, 512, .inr (.inl (fun _ => 0)))), (va20, .inl (cJ, 512, .inr (.inl (fun _ => 0))))]) (w1 := [(q_21, .inr (0, [.ref ka24, .ref va24, .int (nI 0)])), (ka24, .inl (cJ, 752, .inr (.inl (fun _ => 0)))), (va24, .inl (cJ, 752, .inr (.inl (fun _ => 0))))]) hP hD [16] [0, 1, 2, 3, 4, 5, 6, 7, 8, 9, 10, 11, 12, 13, 14, 15] rfl rfl (by decide) (by decide) hkk1 hFc hP1 hD1
  generalize H1 = H at hP hS ⊢
  have hP : va_P D vwCl [(x, .inr (1, [.ref q_1, .ref q_5, .ref q_9, .ref q_13, .ref q_17, .null, .null, .long 0, .long 0])), (q_1, .inr (0, [.ref ka4, .ref va4, .int (nI 0)])), (ka4, .inl (cJ, 512, .inr (.inl (fun _ => 0)))), (va4, .inl (cJ, 512, .inr (.inl (fun _ => 0)))), (q_5, .inr (0, [.ref ka8, .ref va8, .int (nI 0)])), (ka8, .inl (cJ, 512, .inr (.inl (fun _ => 0)))), (va8, .inl (cJ, 512, .inr (.inl (fun _ => 0)))), (q_9, .inr (0, [.ref ka12, .ref va12, .int (nI 0)])), (ka12, .inl (cJ, 512, .inr (.inl (fun _ => 0)))), (va12, .inl (cJ, 512, .inr (.inl (fun _ => 0)))), (q_13, .inr (0, [.ref ka16, .ref va16, .int (nI 0)])), (ka16, .inl (cJ, 512, .inr (.inl (fun _ => 0)))), (va16, .inl (cJ, 512, .inr (.inl (fun _ => 0)))), (q_17, .inr (0, [.ref ka20, .ref va20, .int (nI 0)])), (ka20, .inl (cJ, 512, .inr (.inl (fun _ => 0)))), (va20, .inl (cJ, 512, .inr (.inl (fun _ => 0)))), (q_21, .inr (0, [.ref ka24, .ref va24, .int (nI 0)])), (ka24, .inl (cJ, 752, .inr (.inl (fun _ => 0)))), (va24, .inl (cJ, 752, .inr (.inl (fun _ => 0))))] H := hP.sub [0, 1, 2, 3, 4, 5, 6, 7, 8, 9, 10, 11, 12, 13, 14, 15, 16, 17, 18] rfl
  have hD : va_D A [(x, .inr (1, [.ref q_1, .ref q_5, .ref q_9, .ref q_13, .ref q_17, .null, .null, .long 0, .long 0])), (q_1, .inr (0, [.ref ka4, .ref va4, .int (nI 0)])), (ka4, .inl (cJ, 512, .inr (.inl (fun _ => 0)))), (va4, .inl (cJ, 512, .inr (.inl (fun _ => 0)))), (q_5, .inr (0, [.ref ka8, .ref va8, .int (nI 0)])), (ka8, .inl (cJ, 512, .inr (.inl (fun _ => 0)))), (va8, .inl (cJ, 512, .inr (.inl (fun _ => 0)))), (q_9, .inr (0, [.ref ka12, .ref va12, .int (nI 0)])), (ka12, .inl (cJ, 512, .inr (.inl (fun _ => 0)))), (va12, .inl (cJ, 512, .inr (.inl (fun _ => 0)))), (q_13, .inr (0, [.ref ka16, .ref va16, .int (nI 0)])), (ka16, .inl (cJ, 512, .inr (.inl (fun _ => 0)))), (va16, .inl (cJ, 512, .inr (.inl (fun _ => 0)))), (q_17, .inr (0, [.ref ka20, .ref va20, .int (nI 0)])), (ka20, .inl (cJ, 512, .inr (.inl (fun _ => 0)))), (va20, .inl (cJ, 512, .inr (.inl (fun _ => 0)))), (q_21, .inr (0, [.ref ka24, .ref va24, .int (nI 0)])), (ka24, .inl (cJ, 752, .inr (.inl (fun _ => 0)))), (va24, .inl (cJ, 752, .inr (.inl (fun _ => 0))))] := hD.sub [0, 1, 2, 3, 4, 5, 6, 7, 8, 9, 10, 11, 12, 13, 14, 15, 16, 17, 18] (by decide) rfl
  refine va_put (D := D) (ci := 1) (v := .ref q_21) (ty := .object "KeyHall$Sorted") (C := RX1) (T := TX1) (N := 9) hx hb hts lk10 tyX1 tyX1_ok nmX1 hown hK hP hD hS 0 rfl rfl 5 (by decide) lk15 (fun _ h9 => h9) rfl (by decide +kernel) rfl rfl (Nat.le_of_ble_eq_true rfl) dX1_init_85 (fun H locs hP hD hS => ?_)
  have hP : va_P D vwCl [(x, .inr (1, [.ref q_1, .ref q_5, .ref q_9, .ref q_13, .ref q_17, .ref q_21, .null, .long 0, .long 0])), (q_1, .inr (0, [.ref ka4, .ref va4, .int (nI 0)])), (ka4, .inl (cJ, 512, .inr (.inl (fun _ => 0)))), (va4, .inl (cJ, 512, .inr (.inl (fun _ => 0)))), (q_5, .inr (0, [.ref ka8, .ref va8, .int (nI 0)])), (ka8, .inl (cJ, 512, .inr (.inl (fun _ => 0)))), (va8, .inl (cJ, 512, .inr (.inl (fun _ => 0)))), (q_9, .inr (0, [.ref ka12, .ref va12, .int (nI 0)])), (ka12, .inl (cJ, 512, .inr (.inl (fun _ => 0)))), (va12, .inl (cJ, 512, .inr (.inl (fun _ => 0)))), (q_13, .inr (0, [.ref ka16, .ref va16, .int (nI 0)])), (ka16, .inl (cJ, 512, .inr (.inl (fun _ => 0)))), (va16, .inl (cJ, 512, .inr (.inl (fun _ => 0)))), (q_17, .inr (0, [.ref ka20, .ref va20, .int (nI 0)])), (ka20, .inl (cJ, 512, .inr (.inl (fun _ => 0)))), (va20, .inl (cJ, 512, .inr (.inl (fun _ => 0)))), (q_21, .inr (0, [.ref ka24, .ref va24, .int (nI 0)])), (ka24, .inl (cJ, 752, .inr (.inl (fun _ => 0)))), (va24, .inl (cJ, 752, .inr (.inl (fun _ => 0))))] H := hP
  have hD : va_D A [(x, .inr (1, [.ref q_1, .ref q_5, .ref q_9, .ref q_13, .ref q_17, .ref q_21, .null, .long 0, .long 0])), (q_1, .inr (0, [.ref ka4, .ref va4, .int (nI 0)])), (ka4, .inl (cJ, 512, .inr (.inl (fun _ => 0)))), (va4, .inl (cJ, 512, .inr (.inl (fun _ => 0)))), (q_5, .inr (0, [.ref ka8, .ref va8, .int (nI 0)])), (ka8, .inl (cJ, 512, .inr (.inl (fun _ => 0)))), (va8, .inl (cJ, 512, .inr (.inl (fun _ => 0)))), (q_9, .inr (0, [.ref ka12, .ref va12, .int (nI 0)])), (ka12, .inl (cJ, 512, .inr (.inl (fun _ => 0)))), (va12, .inl (cJ, 512, .inr (.inl (fun _ => 0)))), (q_13, .inr (0, [.ref ka16, .ref va16, .int (nI 0)])), (ka16, .inl (cJ, 512, .inr (.inl (fun _ => 0)))), (va16, .inl (cJ, 512, .inr (.inl (fun _ => 0)))), (q_17, .inr (0, [.ref ka20, .ref va20, .int (nI 0)])), (ka20, .inl (cJ, 512, .inr (.inl (fun _ => 0)))), (va20, .inl (cJ, 512, .inr (.inl (fun _ => 0)))), (q_21, .inr (0, [.ref ka24, .ref va24, .int (nI 0)])), (ka24, .inl (cJ, 752, .inr (.inl (fun _ => 0)))), (va24, .inl (cJ, 752, .inr (.inl (fun _ => 0))))] := hD
  refine lv_aload_n hx hb dX1_init_88 rfl (lv_at hl 0 rfl) ?_
  refine va_new (ci := 0) (fs := [.null, .null, .int (nI 0)]) (C := RX0) (T := TX0) (N := 3) hx hb hts lk3 tyX0 tyX0_ok hown lk4 lk5 lk6 hK hP hD hS hA rfl (by decide) (by show _ ≤ 21; omega) (by show _ ≤ 8149; omega) dX1_init_89 (fun q_25 H hP hD hS => ?_)
  have hP : va_P D vwCl [(x, .inr (1, [.ref q_1, .ref q_5, .ref q_9, .ref q_13, .ref q_17, .ref q_21, .null, .long 0, .long 0])), (q_1, .inr (0, [.ref ka4, .ref va4, .int (nI 0)])), (ka4, .inl (cJ, 512, .inr (.inl (fun _ => 0)))), (va4, .inl (cJ, 512, .inr (.inl (fun _ => 0)))), (q_5, .inr (0, [.ref ka8, .ref va8, .int (nI 0)])), (ka8, .inl (cJ, 512, .inr (.inl (fun _ => 0)))), (va8, .inl (cJ, 512, .inr (.inl (fun _ => 0)))), (q_9, .inr (0, [.ref ka12, .ref va12, .int (nI 0)])), (ka12, .inl (cJ, 512, .inr (.inl (fun _ => 0)))), (va12, .inl (cJ, 512, .inr (.inl (fun _ => 0)))), (q_13, .inr (0, [.ref ka16, .ref va16, .int (nI 0)])), (ka16, .inl (cJ, 512, .inr (.inl (fun _ => 0)))), (va16, .inl (cJ, 512, .inr (.inl (fun _ => 0)))), (q_17, .inr (0, [.ref ka20, .ref va20, .int (nI 0)])), (ka20, .inl (cJ, 512, .inr (.inl (fun _ => 0)))), (va20, .inl (cJ, 512, .inr (.inl (fun _ => 0)))), (q_21, .inr (0, [.ref ka24, .ref va24, .int (nI 0)])), (ka24, .inl (cJ, 752, .inr (.inl (fun _ => 0)))), (va24, .inl (cJ, 752, .inr (.inl (fun _ => 0)))), (q_25, .inr (0, [.null, .null, .int (nI 0)]))] H := hP
  have hD : va_D A [(x, .inr (1, [.ref q_1, .ref q_5, .ref q_9, .ref q_13, .ref q_17, .ref q_21, .null, .long 0, .long 0])), (q_1, .inr (0, [.ref ka4, .ref va4, .int (nI 0)])), (ka4, .inl (cJ, 512, .inr (.inl (fun _ => 0)))), (va4, .inl (cJ, 512, .inr (.inl (fun _ => 0)))), (q_5, .inr (0, [.ref ka8, .ref va8, .int (nI 0)])), (ka8, .inl (cJ, 512, .inr (.inl (fun _ => 0)))), (va8, .inl (cJ, 512, .inr (.inl (fun _ => 0)))), (q_9, .inr (0, [.ref ka12, .ref va12, .int (nI 0)])), (ka12, .inl (cJ, 512, .inr (.inl (fun _ => 0)))), (va12, .inl (cJ, 512, .inr (.inl (fun _ => 0)))), (q_13, .inr (0, [.ref ka16, .ref va16, .int (nI 0)])), (ka16, .inl (cJ, 512, .inr (.inl (fun _ => 0)))), (va16, .inl (cJ, 512, .inr (.inl (fun _ => 0)))), (q_17, .inr (0, [.ref ka20, .ref va20, .int (nI 0)])), (ka20, .inl (cJ, 512, .inr (.inl (fun _ => 0)))), (va20, .inl (cJ, 512, .inr (.inl (fun _ => 0)))), (q_21, .inr (0, [.ref ka24, .ref va24, .int (nI 0)])), (ka24, .inl (cJ, 752, .inr (.inl (fun _ => 0)))), (va24, .inl (cJ, 752, .inr (.inl (fun _ => 0)))), (q_25, .inr (0, [.null, .null, .int (nI 0)]))] := hD
  refine lv_dup hx hb dX1_init_92 rfl ?_
  refine lv_sipush (v := nI 752) hx hb dX1_init_93 (by decide) ?_
  have hFc := va_free (wc := [(q_25, .inr (0, [.null, .null, .int (nI 0)]))]) hD hS hA [19] rfl
  refine va_callv (va_runI (As := [.int (nI 752)]) (rest := [.ref q_25, .ref x]) ⟨hx, hb, hml, hown, hts⟩ (c_X0_init l D cI cJ q_25 752 (by omega) H.size) (cwI 1 hts gX1_init_X0_init rfl rfl rfl lk6 lk7 lk8 rfl (by decide +kernel) ⟨Nat.le_of_ble_eq_true rfl, Nat.le_of_ble_eq_true rfl⟩) (z_preSw hK hP hD [19] (by decide) rfl rfl) rfl rfl hl.1 rfl (lv_room (Nat.le_of_ble_eq_true rfl)) dX1_init_96 ⟨by show _ ≤ 21; omega, by show _ ≤ 8149; omega⟩) hS (fun q _ h => hFc q h) hFc (fun u_27 t H1 locs ht hvm hr_26 hB hzz1 hkk1 hS => ?_)
  obtain ⟨ka28, va28⟩ := u_27
  obtain ⟨hP1, hK1, hD1⟩ := hB
  rw [ht] at hP1
  try dsimp only at hr_26
  obtain ⟨hP, hD⟩ := va_join (wr := [(x, .inr (1, [.ref q_1, .ref q_5, .ref q_9, .ref q_13, .ref q_17, .ref q_21, .null, .long 0, .long 0])), (q_1, .inr (0, [.ref ka4, .ref va4, .int (nI 0)])), (ka4, .inl (cJ, 512, .inr (.inl (fun _ => 0)))), (va4, .inl (cJ, 512, .inr (.inl (fun _ => 0)))), (q_5, .inr (0, [.ref ka8, .ref va8, .int (nI 0)])), (ka8, .inl (cJ, 512, .inr (.inl (fun _ => 0)))), (va8, .inl (cJ, 512, .inr (.inl (fun _ => 0)))), (q_9, .inr (0, [.ref ka12, .ref va12, .int (nI 0)])), (ka12, .inl (cJ, 512, .inr (.inl (fun _ => 0)))), (va12, .inl (cJ, 512, .inr (.inl (fun _ => 0)))), (q_13, .inr (0, [.ref ka16, .ref va16, .int (nI 0)])), (ka16, .inl (cJ, 512, .inr (.inl (fun _ => 0)))), (va16, .inl (cJ, 512, .inr (.inl (fun _ => 0)))), (q_17, .inr (0, [.ref ka20, .ref va20, .int (nI 0)])), (ka20, .inl (cJ, 512, .inr (.inl (fun _ => 0)))), (va20, .inl (cJ, 512, .inr (.inl (fun _ => 0)))), (q_21, .inr (0, [.ref ka24, .ref va24, .int (nI 0)])), (ka24, .inl (cJ, 752, .inr (.inl (fun _ => 0)))), (va24, .inl (cJ, 752, .inr (.inl (fun _ => 0))))]) (w1 := [(q_25, .inr (0, [.ref ka28, .ref va28, .int (nI 0)])), (ka28, .inl (cJ, 752, .inr (.inl (fun _ => 0)))), (va28, .inl (cJ, 752, .inr (.inl (fun _ => 0))))]) hP hD [19] [0, 1, 2, 3, 4, 5, 6, 7, 8, 9, 10, 11, 12, 13, 14, 15, 16, 17, 18] rfl rfl (by decide) (by decide) hkk1 hFc hP1 hD1
  generalize H1 = H at hP hS ⊢
  have hP : va_P D vwCl [(x, .inr (1, [.ref q_1, .ref q_5, .ref q_9, .ref q_13, .ref q_17, .ref q_21, .null, .long 0, .long 0])), (q_1, .inr (0, [.ref ka4, .ref va4, .int (nI 0)])), (ka4, .inl (cJ, 512, .inr (.inl (fun _ => 0)))), (va4, .inl (cJ, 512, .inr (.inl (fun _ => 0)))), (q_5, .inr (0, [.ref ka8, .ref va8, .int (nI 0)])), (ka8, .inl (cJ, 512, .inr (.inl (fun _ => 0)))), (va8, .inl (cJ, 512, .inr (.inl (fun _ => 0)))), (q_9, .inr (0, [.ref ka12, .ref va12, .int (nI 0)])), (ka12, .inl (cJ, 512, .inr (.inl (fun _ => 0)))), (va12, .inl (cJ, 512, .inr (.inl (fun _ => 0)))), (q_13, .inr (0, [.ref ka16, .ref va16, .int (nI 0)])), (ka16, .inl (cJ, 512, .inr (.inl (fun _ => 0)))), (va16, .inl (cJ, 512, .inr (.inl (fun _ => 0)))), (q_17, .inr (0, [.ref ka20, .ref va20, .int (nI 0)])), (ka20, .inl (cJ, 512, .inr (.inl (fun _ => 0)))), (va20, .inl (cJ, 512, .inr (.inl (fun _ => 0)))), (q_21, .inr (0, [.ref ka24, .ref va24, .int (nI 0)])), (ka24, .inl (cJ, 752, .inr (.inl (fun _ => 0)))), (va24, .inl (cJ, 752, .inr (.inl (fun _ => 0)))), (q_25, .inr (0, [.ref ka28, .ref va28, .int (nI 0)])), (ka28, .inl (cJ, 752, .inr (.inl (fun _ => 0)))), (va28, .inl (cJ, 752, .inr (.inl (fun _ => 0))))] H := hP.sub [0, 1, 2, 3, 4, 5, 6, 7, 8, 9, 10, 11, 12, 13, 14, 15, 16, 17, 18, 19, 20, 21] rfl
  have hD : va_D A [(x, .inr (1, [.ref q_1, .ref q_5, .ref q_9, .ref q_13, .ref q_17, .ref q_21, .null, .long 0, .long 0])), (q_1, .inr (0, [.ref ka4, .ref va4, .int (nI 0)])), (ka4, .inl (cJ, 512, .inr (.inl (fun _ => 0)))), (va4, .inl (cJ, 512, .inr (.inl (fun _ => 0)))), (q_5, .inr (0, [.ref ka8, .ref va8, .int (nI 0)])), (ka8, .inl (cJ, 512, .inr (.inl (fun _ => 0)))), (va8, .inl (cJ, 512, .inr (.inl (fun _ => 0)))), (q_9, .inr (0, [.ref ka12, .ref va12, .int (nI 0)])), (ka12, .inl (cJ, 512, .inr (.inl (fun _ => 0)))), (va12, .inl (cJ, 512, .inr (.inl (fun _ => 0)))), (q_13, .inr (0, [.ref ka16, .ref va16, .int (nI 0)])), (ka16, .inl (cJ, 512, .inr (.inl (fun _ => 0)))), (va16, .inl (cJ, 512, .inr (.inl (fun _ => 0)))), (q_17, .inr (0, [.ref ka20, .ref va20, .int (nI 0)])), (ka20, .inl (cJ, 512, .inr (.inl (fun _ => 0)))), (va20, .inl (cJ, 512, .inr (.inl (fun _ => 0)))), (q_21, .inr (0, [.ref ka24, .ref va24, .int (nI 0)])), (ka24, .inl (cJ, 752, .inr (.inl (fun _ => 0)))), (va24, .inl (cJ, 752, .inr (.inl (fun _ => 0)))), (q_25, .inr (0, [.ref ka28, .ref va28, .int (nI 0)])), (ka28, .inl (cJ, 752, .inr (.inl (fun _ => 0)))), (va28, .inl (cJ, 752, .inr (.inl (fun _ => 0))))] := hD.sub [0, 1, 2, 3, 4, 5, 6, 7, 8, 9, 10, 11, 12, 13, 14, 15, 16, 17, 18, 19, 20, 21] (by decide) rfl
  refine va_put (D := D) (ci := 1) (v := .ref q_25) (ty := .object "KeyHall$Sorted") (C := RX1) (T := TX1) (N := 9) hx hb hts lk10 tyX1 tyX1_ok nmX1 hown hK hP hD hS 0 rfl rfl 6 (by decide) lk16 (fun _ h9 => h9) rfl (by decide +kernel) rfl rfl (Nat.le_of_ble_eq_true rfl) dX1_init_99 (fun H locs hP hD hS => ?_)
  have hP : va_P D vwCl [(x, .inr (1, [.ref q_1, .ref q_5, .ref q_9, .ref q_13, .ref q_17, .ref q_21, .ref q_25, .long 0, .long 0])), (q_1, .inr (0, [.ref ka4, .ref va4, .int (nI 0)])), (ka4, .inl (cJ, 512, .inr (.inl (fun _ => 0)))), (va4, .inl (cJ, 512, .inr (.inl (fun _ => 0)))), (q_5, .inr (0, [.ref ka8, .ref va8, .int (nI 0)])), (ka8, .inl (cJ, 512, .inr (.inl (fun _ => 0)))), (va8, .inl (cJ, 512, .inr (.inl (fun _ => 0)))), (q_9, .inr (0, [.ref ka12, .ref va12, .int (nI 0)])), (ka12, .inl (cJ, 512, .inr (.inl (fun _ => 0)))), (va12, .inl (cJ, 512, .inr (.inl (fun _ => 0)))), (q_13, .inr (0, [.ref ka16, .ref va16, .int (nI 0)])), (ka16, .inl (cJ, 512, .inr (.inl (fun _ => 0)))), (va16, .inl (cJ, 512, .inr (.inl (fun _ => 0)))), (q_17, .inr (0, [.ref ka20, .ref va20, .int (nI 0)])), (ka20, .inl (cJ, 512, .inr (.inl (fun _ => 0)))), (va20, .inl (cJ, 512, .inr (.inl (fun _ => 0)))), (q_21, .inr (0, [.ref ka24, .ref va24, .int (nI 0)])), (ka24, .inl (cJ, 752, .inr (.inl (fun _ => 0)))), (va24, .inl (cJ, 752, .inr (.inl (fun _ => 0)))), (q_25, .inr (0, [.ref ka28, .ref va28, .int (nI 0)])), (ka28, .inl (cJ, 752, .inr (.inl (fun _ => 0)))), (va28, .inl (cJ, 752, .inr (.inl (fun _ => 0))))] H := hP
  have hD : va_D A [(x, .inr (1, [.ref q_1, .ref q_5, .ref q_9, .ref q_13, .ref q_17, .ref q_21, .ref q_25, .long 0, .long 0])), (q_1, .inr (0, [.ref ka4, .ref va4, .int (nI 0)])), (ka4, .inl (cJ, 512, .inr (.inl (fun _ => 0)))), (va4, .inl (cJ, 512, .inr (.inl (fun _ => 0)))), (q_5, .inr (0, [.ref ka8, .ref va8, .int (nI 0)])), (ka8, .inl (cJ, 512, .inr (.inl (fun _ => 0)))), (va8, .inl (cJ, 512, .inr (.inl (fun _ => 0)))), (q_9, .inr (0, [.ref ka12, .ref va12, .int (nI 0)])), (ka12, .inl (cJ, 512, .inr (.inl (fun _ => 0)))), (va12, .inl (cJ, 512, .inr (.inl (fun _ => 0)))), (q_13, .inr (0, [.ref ka16, .ref va16, .int (nI 0)])), (ka16, .inl (cJ, 512, .inr (.inl (fun _ => 0)))), (va16, .inl (cJ, 512, .inr (.inl (fun _ => 0)))), (q_17, .inr (0, [.ref ka20, .ref va20, .int (nI 0)])), (ka20, .inl (cJ, 512, .inr (.inl (fun _ => 0)))), (va20, .inl (cJ, 512, .inr (.inl (fun _ => 0)))), (q_21, .inr (0, [.ref ka24, .ref va24, .int (nI 0)])), (ka24, .inl (cJ, 752, .inr (.inl (fun _ => 0)))), (va24, .inl (cJ, 752, .inr (.inl (fun _ => 0)))), (q_25, .inr (0, [.ref ka28, .ref va28, .int (nI 0)])), (ka28, .inl (cJ, 752, .inr (.inl (fun _ => 0)))), (va28, .inl (cJ, 752, .inr (.inl (fun _ => 0))))] := hD
  refine lv_aload_n hx hb dX1_init_102 rfl (lv_at hl 0 rfl) ?_
  refine lv_lconst (v := 0) hx hb dX1_init_103 (by decide) ?_
  refine va_put (D := D) (ci := 1) (v := .long 0) (ty := .long) (C := RX1) (T := TX1) (N := 9) hx hb hts lk10 tyX1 tyX1_ok nmX1 hown hK hP hD hS 0 rfl rfl 7 (by decide) lk17 (fun _ h9 => h9) rfl (by decide +kernel) rfl rfl (Nat.le_of_ble_eq_true rfl) dX1_init_104 (fun H locs hP hD hS => ?_)
  have hP : va_P D vwCl [(x, .inr (1, [.ref q_1, .ref q_5, .ref q_9, .ref q_13, .ref q_17, .ref q_21, .ref q_25, .long 0, .long 0])), (q_1, .inr (0, [.ref ka4, .ref va4, .int (nI 0)])), (ka4, .inl (cJ, 512, .inr (.inl (fun _ => 0)))), (va4, .inl (cJ, 512, .inr (.inl (fun _ => 0)))), (q_5, .inr (0, [.ref ka8, .ref va8, .int (nI 0)])), (ka8, .inl (cJ, 512, .inr (.inl (fun _ => 0)))), (va8, .inl (cJ, 512, .inr (.inl (fun _ => 0)))), (q_9, .inr (0, [.ref ka12, .ref va12, .int (nI 0)])), (ka12, .inl (cJ, 512, .inr (.inl (fun _ => 0)))), (va12, .inl (cJ, 512, .inr (.inl (fun _ => 0)))), (q_13, .inr (0, [.ref ka16, .ref va16, .int (nI 0)])), (ka16, .inl (cJ, 512, .inr (.inl (fun _ => 0)))), (va16, .inl (cJ, 512, .inr (.inl (fun _ => 0)))), (q_17, .inr (0, [.ref ka20, .ref va20, .int (nI 0)])), (ka20, .inl (cJ, 512, .inr (.inl (fun _ => 0)))), (va20, .inl (cJ, 512, .inr (.inl (fun _ => 0)))), (q_21, .inr (0, [.ref ka24, .ref va24, .int (nI 0)])), (ka24, .inl (cJ, 752, .inr (.inl (fun _ => 0)))), (va24, .inl (cJ, 752, .inr (.inl (fun _ => 0)))), (q_25, .inr (0, [.ref ka28, .ref va28, .int (nI 0)])), (ka28, .inl (cJ, 752, .inr (.inl (fun _ => 0)))), (va28, .inl (cJ, 752, .inr (.inl (fun _ => 0))))] H := hP
  have hD : va_D A [(x, .inr (1, [.ref q_1, .ref q_5, .ref q_9, .ref q_13, .ref q_17, .ref q_21, .ref q_25, .long 0, .long 0])), (q_1, .inr (0, [.ref ka4, .ref va4, .int (nI 0)])), (ka4, .inl (cJ, 512, .inr (.inl (fun _ => 0)))), (va4, .inl (cJ, 512, .inr (.inl (fun _ => 0)))), (q_5, .inr (0, [.ref ka8, .ref va8, .int (nI 0)])), (ka8, .inl (cJ, 512, .inr (.inl (fun _ => 0)))), (va8, .inl (cJ, 512, .inr (.inl (fun _ => 0)))), (q_9, .inr (0, [.ref ka12, .ref va12, .int (nI 0)])), (ka12, .inl (cJ, 512, .inr (.inl (fun _ => 0)))), (va12, .inl (cJ, 512, .inr (.inl (fun _ => 0)))), (q_13, .inr (0, [.ref ka16, .ref va16, .int (nI 0)])), (ka16, .inl (cJ, 512, .inr (.inl (fun _ => 0)))), (va16, .inl (cJ, 512, .inr (.inl (fun _ => 0)))), (q_17, .inr (0, [.ref ka20, .ref va20, .int (nI 0)])), (ka20, .inl (cJ, 512, .inr (.inl (fun _ => 0)))), (va20, .inl (cJ, 512, .inr (.inl (fun _ => 0)))), (q_21, .inr (0, [.ref ka24, .ref va24, .int (nI 0)])), (ka24, .inl (cJ, 752, .inr (.inl (fun _ => 0)))), (va24, .inl (cJ, 752, .inr (.inl (fun _ => 0)))), (q_25, .inr (0, [.ref ka28, .ref va28, .int (nI 0)])), (ka28, .inl (cJ, 752, .inr (.inl (fun _ => 0)))), (va28, .inl (cJ, 752, .inr (.inl (fun _ => 0))))] := hD
  refine lv_aload_n hx hb dX1_init_107 rfl (lv_at hl 0 rfl) ?_
  refine lv_lconst (v := 0) hx hb dX1_init_108 (by decide) ?_
  refine va_put (D := D) (ci := 1) (v := .long 0) (ty := .long) (C := RX1) (T := TX1) (N := 9) hx hb hts lk10 tyX1 tyX1_ok nmX1 hown hK hP hD hS 0 rfl rfl 8 (by decide) lk18 (fun _ h9 => h9) rfl (by decide +kernel) rfl rfl (Nat.le_of_ble_eq_true rfl) dX1_init_109 (fun H locs hP hD hS => ?_)
  have hP : va_P D vwCl [(x, .inr (1, [.ref q_1, .ref q_5, .ref q_9, .ref q_13, .ref q_17, .ref q_21, .ref q_25, .long 0, .long 0])), (q_1, .inr (0, [.ref ka4, .ref va4, .int (nI 0)])), (ka4, .inl (cJ, 512, .inr (.inl (fun _ => 0)))), (va4, .inl (cJ, 512, .inr (.inl (fun _ => 0)))), (q_5, .inr (0, [.ref ka8, .ref va8, .int (nI 0)])), (ka8, .inl (cJ, 512, .inr (.inl (fun _ => 0)))), (va8, .inl (cJ, 512, .inr (.inl (fun _ => 0)))), (q_9, .inr (0, [.ref ka12, .ref va12, .int (nI 0)])), (ka12, .inl (cJ, 512, .inr (.inl (fun _ => 0)))), (va12, .inl (cJ, 512, .inr (.inl (fun _ => 0)))), (q_13, .inr (0, [.ref ka16, .ref va16, .int (nI 0)])), (ka16, .inl (cJ, 512, .inr (.inl (fun _ => 0)))), (va16, .inl (cJ, 512, .inr (.inl (fun _ => 0)))), (q_17, .inr (0, [.ref ka20, .ref va20, .int (nI 0)])), (ka20, .inl (cJ, 512, .inr (.inl (fun _ => 0)))), (va20, .inl (cJ, 512, .inr (.inl (fun _ => 0)))), (q_21, .inr (0, [.ref ka24, .ref va24, .int (nI 0)])), (ka24, .inl (cJ, 752, .inr (.inl (fun _ => 0)))), (va24, .inl (cJ, 752, .inr (.inl (fun _ => 0)))), (q_25, .inr (0, [.ref ka28, .ref va28, .int (nI 0)])), (ka28, .inl (cJ, 752, .inr (.inl (fun _ => 0)))), (va28, .inl (cJ, 752, .inr (.inl (fun _ => 0))))] H := hP
  have hD : va_D A [(x, .inr (1, [.ref q_1, .ref q_5, .ref q_9, .ref q_13, .ref q_17, .ref q_21, .ref q_25, .long 0, .long 0])), (q_1, .inr (0, [.ref ka4, .ref va4, .int (nI 0)])), (ka4, .inl (cJ, 512, .inr (.inl (fun _ => 0)))), (va4, .inl (cJ, 512, .inr (.inl (fun _ => 0)))), (q_5, .inr (0, [.ref ka8, .ref va8, .int (nI 0)])), (ka8, .inl (cJ, 512, .inr (.inl (fun _ => 0)))), (va8, .inl (cJ, 512, .inr (.inl (fun _ => 0)))), (q_9, .inr (0, [.ref ka12, .ref va12, .int (nI 0)])), (ka12, .inl (cJ, 512, .inr (.inl (fun _ => 0)))), (va12, .inl (cJ, 512, .inr (.inl (fun _ => 0)))), (q_13, .inr (0, [.ref ka16, .ref va16, .int (nI 0)])), (ka16, .inl (cJ, 512, .inr (.inl (fun _ => 0)))), (va16, .inl (cJ, 512, .inr (.inl (fun _ => 0)))), (q_17, .inr (0, [.ref ka20, .ref va20, .int (nI 0)])), (ka20, .inl (cJ, 512, .inr (.inl (fun _ => 0)))), (va20, .inl (cJ, 512, .inr (.inl (fun _ => 0)))), (q_21, .inr (0, [.ref ka24, .ref va24, .int (nI 0)])), (ka24, .inl (cJ, 752, .inr (.inl (fun _ => 0)))), (va24, .inl (cJ, 752, .inr (.inl (fun _ => 0)))), (q_25, .inr (0, [.ref ka28, .ref va28, .int (nI 0)])), (ka28, .inl (cJ, 752, .inr (.inl (fun _ => 0)))), (va28, .inl (cJ, 752, .inr (.inl (fun _ => 0))))] := hD
  refine W.widen (k := 21) (n := 8149) (by omega) (by omega) ?_
  exact W.vret hx hb hr (fun t ht hW => ⟨⟨(q_1, ka4, va4, q_5, ka8, va8, q_9, ka12, va12, q_13, ka16, va16, q_17, ka20, va20, q_21, ka24, va24, q_25, ka28, va28), rfl, trivial, by rw [ht]; exact (hP.sub [0, 1, 2, 3, 4, 5, 6, 7, 8, 9, 10, 11, 12, 13, 14, 15, 16, 17, 18, 19, 20, 21] rfl), va_K.moved hW.alike hK, (hD.sub [0, 1, 2, 3, 4, 5, 6, 7, 8, 9, 10, 11, 12, 13, 14, 15, 16, 17, 18, 19, 20, 21] (by decide) rfl)⟩, hS.F ht⟩) hS.2.2 dX1_init_112

def szR (wh r : Int32) (a0 a1 a2 a3 a4 a5 a6 : Nat) : Prop := (wh = nI 0 ∧ r = nI a0) ∨ (wh = nI 1 ∧ r = nI a1) ∨ (wh = nI 2 ∧ r = nI a2) ∨ (wh = nI 3 ∧ r = nI a3) ∨ (wh = nI 4 ∧ r = nI a4) ∨ (wh = nI 5 ∧ r = nI a5) ∨ (wh = nI 6 ∧ r = nI a6) ∨ ((wh.toInt < 0 ∨ 6 < wh.toInt) ∧ r = (-1))
theorem sw7 (wh : Int32) : wh = nI 0 ∨ wh = nI 1 ∨ wh = nI 2 ∨ wh = nI 3 ∨ wh = nI 4 ∨ wh = nI 5 ∨ wh = nI 6 ∨ (wh.toInt < 0 ∨ 6 < wh.toInt) := by
  by_cases h : wh.toInt < 0 ∨ 6 < wh.toInt
  · exact Or.inr (Or.inr (Or.inr (Or.inr (Or.inr (Or.inr (Or.inr h))))))
  · have e : ∀ k : Nat, k < 2 ^ 31 → wh.toInt = (k : Int) → wh = nI k := fun k hk q => Int32.toInt_inj.mp (q.trans (nI_toInt hk).symm)
    have h7 : wh.toInt = 0 ∨ wh.toInt = 1 ∨ wh.toInt = 2 ∨ wh.toInt = 3 ∨ wh.toInt = 4 ∨ wh.toInt = 5 ∨ wh.toInt = 6 := by omega
    rcases h7 with q | q | q | q | q | q | q
    · exact Or.inl (e 0 (by decide) q)
    · exact Or.inr (Or.inl (e 1 (by decide) q))
    · exact Or.inr (Or.inr (Or.inl (e 2 (by decide) q)))
    · exact Or.inr (Or.inr (Or.inr (Or.inl (e 3 (by decide) q))))
    · exact Or.inr (Or.inr (Or.inr (Or.inr (Or.inl (e 4 (by decide) q)))))
    · exact Or.inr (Or.inr (Or.inr (Or.inr (Or.inr (Or.inl (e 5 (by decide) q))))))
    · exact Or.inr (Or.inr (Or.inr (Or.inr (Or.inr (Or.inr (Or.inl (e 6 (by decide) q)))))))

set_option maxHeartbeats 4000000 in
set_option maxRecDepth 100000 in
theorem c_X1_size (l : Launch) (D : va_G) (cI cJ : ClassId) (x s0 s1 s2 s3 s4 s5 s6 : Nat) (tape turn : Int64) (ka0 va0 n0 : Nat) (K0 V0 : Nat → Int64) (hn0 : n0 ≤ 512) (ka1 va1 n1 : Nat) (K1 V1 : Nat → Int64) (hn1 : n1 ≤ 512) (ka2 va2 n2 : Nat) (K2 V2 : Nat → Int64) (hn2 : n2 ≤ 512) (ka3 va3 n3 : Nat) (K3 V3 : Nat → Int64) (hn3 : n3 ≤ 512) (ka4 va4 n4 : Nat) (K4 V4 : Nat → Int64) (hn4 : n4 ≤ 512) (ka5 va5 n5 : Nat) (K5 V5 : Nat → Int64) (hn5 : n5 ≤ 752) (wh : Int32) : Met l yX1_size wsX1_size { frames := 1, cells := 0, slots := 0, locals := 23 } (va_Pc [.ref x, .int wh] (rP D cI cJ [(x, .inr (1, [.ref s0, .ref s1, .ref s2, .ref s3, .ref s4, .ref s5, .ref s6, .long tape, .long turn])), (s0, .inr (0, [.ref ka0, .ref va0, .int (nI n0)])), (ka0, .inl (cJ, 512, .inr (.inl K0))), (va0, .inl (cJ, 512, .inr (.inl V0))), (s1, .inr (0, [.ref ka1, .ref va1, .int (nI n1)])), (ka1, .inl (cJ, 512, .inr (.inl K1))), (va1, .inl (cJ, 512, .inr (.inl V1))), (s2, .inr (0, [.ref ka2, .ref va2, .int (nI n2)])), (ka2, .inl (cJ, 512, .inr (.inl K2))), (va2, .inl (cJ, 512, .inr (.inl V2))), (s3, .inr (0, [.ref ka3, .ref va3, .int (nI n3)])), (ka3, .inl (cJ, 512, .inr (.inl K3))), (va3, .inl (cJ, 512, .inr (.inl V3))), (s4, .inr (0, [.ref ka4, .ref va4, .int (nI n4)])), (ka4, .inl (cJ, 512, .inr (.inl K4))), (va4, .inl (cJ, 512, .inr (.inl V4))), (s5, .inr (0, [.ref ka5, .ref va5, .int (nI n5)])), (ka5, .inl (cJ, 752, .inr (.inl K5))), (va5, .inl (cJ, 752, .inr (.inl V5)))])) (vp_Si (fun r => szR wh r n0 n1 n2 (grp (fun i => K3 i >>> ((nI 0).toInt64 &&& 63)) n3) n5 (grp (fun i => K4 i >>> ((nI 32).toInt64 &&& 63)) n4) n4)) 0 0 (fun _ => False) := by
  refine Met.ofW (cc := cX1_size) (maxL := 2) (ret := (some .int)) (by decide) rfl ?_
  intro p e s m args below meth c s₁ B hml hv
  obtain ⟨rfl, hP, hK⟩ := hv
  have hx := B.exec
  have hb := B.bytes
  have hr := B.returns
  have hts := atoms_spec (ws := wsX1_size) B.pre
  have hown : s.vm.findClass RX1 = some m.cls := findClass_of_methodNamed B.named
  have hlocks := B.notSynchronized
  have lk0 := hts (.fieldLink RX1 14 "KeyHall" "counts" "LKeyHall$Sorted;") (by decide +kernel)
  have lk1 : ∀ w ∈ wsX10, w ∈ wsX1_size := by decide +kernel
  have lk2 := hts (.fieldLink RX1 18 "KeyHall" "coming" "LKeyHall$Sorted;") (by decide +kernel)
  have lk3 := hts (.fieldLink RX1 21 "KeyHall" "rising" "LKeyHall$Sorted;") (by decide +kernel)
  have lk4 := hts (.fieldLink RX1 24 "KeyHall" "lines" "LKeyHall$Sorted;") (by decide +kernel)
  have lk5 := hts (.fieldLink RX1 30 "KeyHall" "points" "LKeyHall$Sorted;") (by decide +kernel)
  have lk6 := hts (.fieldLink RX1 27 "KeyHall" "table" "LKeyHall$Sorted;") (by decide +kernel)
  have hl := lv_entry ([.ref x, .int wh]) (n := 2) (Nat.le_of_ble_eq_true rfl)
  rw [lg_entry_eq]
  generalize (lg_sl ([.ref x, .int wh]) ++ List.replicate (2 - (lg_sl ([.ref x, .int wh])).length) Slot.unset).toArray = ls at hl ⊢
  have hl : lv_has ls 2 [(0, .ref x), (1, .int wh)] := hl
  refine lv_iload_n hx hb dX1_size_0 rfl (lv_at hl 1 rfl) ?_
  rcases sw7 wh with rfl | rfl | rfl | rfl | rfl | rfl | rfl | hout
  · refine lv_tableIn (tgt := 44) hx hb dX1_size_1 (by decide) (by decide) (off := 43) (by decide) (by decide) ?_
    refine lv_aload_n hx hb dX1_size_44 rfl (lv_at hl 0 rfl) ?_
    refine va_get (D := D) (ci := 1) (v := .ref s0) (C := RX1) (T := TX1) (N := 9) hx hb hts lk1 hown hK hP 0 rfl rfl 0 (by decide) lk0 (fun _ h9 => h9) rfl dX1_size_45 ?_
    refine vp_callSi (va_Run.run (va_runV (As := []) (rest := []) ⟨hx, hb, hml, hown, hts⟩ (c_X0_held l D cI cJ s0 ka0 va0 512 n0 K0 V0  ) (cwV 0 hts gX1_size_X0_held rfl rfl rfl (by decide +kernel) ⟨Nat.le_of_ble_eq_true rfl, Nat.le_of_ble_eq_true rfl⟩) (z_preV hK hP [1, 2, 3] rfl 0 1 rfl rfl) rfl rfl hl.1 rfl (lv_room (Nat.le_of_ble_eq_true rfl)) dX1_size_48 ⟨Nat.zero_le _, Nat.zero_le _⟩)) (fun r_1 hr_1 => ?_)
    replace hr_1 := hr_1.symm
    subst hr_1
    exact W.iret (v := nI n0) hx hb hr (fun t ht hW => ⟨nI n0, rfl, Or.inl ⟨rfl, rfl⟩, ht⟩) (fun _ h => nomatch h) dX1_size_51
  · refine lv_tableIn (tgt := 52) hx hb dX1_size_1 (by decide) (by decide) (off := 51) (by decide) (by decide) ?_
    refine lv_aload_n hx hb dX1_size_52 rfl (lv_at hl 0 rfl) ?_
    refine va_get (D := D) (ci := 1) (v := .ref s1) (C := RX1) (T := TX1) (N := 9) hx hb hts lk1 hown hK hP 0 rfl rfl 1 (by decide) lk2 (fun _ h9 => h9) rfl dX1_size_53 ?_
    refine vp_callSi (va_Run.run (va_runV (As := []) (rest := []) ⟨hx, hb, hml, hown, hts⟩ (c_X0_held l D cI cJ s1 ka1 va1 512 n1 K1 V1  ) (cwV 0 hts gX1_size_X0_held rfl rfl rfl (by decide +kernel) ⟨Nat.le_of_ble_eq_true rfl, Nat.le_of_ble_eq_true rfl⟩) (z_preV hK hP [4, 5, 6] rfl 0 4 rfl rfl) rfl rfl hl.1 rfl (lv_room (Nat.le_of_ble_eq_true rfl)) dX1_size_56 ⟨Nat.zero_le _, Nat.zero_le _⟩)) (fun r_2 hr_2 => ?_)
    replace hr_2 := hr_2.symm
    subst hr_2
    exact W.iret (v := nI n1) hx hb hr (fun t ht hW => ⟨nI n1, rfl, Or.inr (Or.inl ⟨rfl, rfl⟩), ht⟩) (fun _ h => nomatch h) dX1_size_59
  · refine lv_tableIn (tgt := 60) hx hb dX1_size_1 (by decide) (by decide) (off := 59) (by decide) (by decide) ?_
    refine lv_aload_n hx hb dX1_size_60 rfl (lv_at hl 0 rfl) ?_
    refine va_get (D := D) (ci := 1) (v := .ref s2) (C := RX1) (T := TX1) (N := 9) hx hb hts lk1 hown hK hP 0 rfl rfl 2 (by decide) lk3 (fun _ h9 => h9) rfl dX1_size_61 ?_
    refine vp_callSi (va_Run.run (va_runV (As := []) (rest := []) ⟨hx, hb, hml, hown, hts⟩ (c_X0_held l D cI cJ s2 ka2 va2 512 n2 K2 V2  ) (cwV 0 hts gX1_size_X0_held rfl rfl rfl (by decide +kernel) ⟨Nat.le_of_ble_eq_true rfl, Nat.le_of_ble_eq_true rfl⟩) (z_preV hK hP [7, 8, 9] rfl 0 7 rfl rfl) rfl rfl hl.1 rfl (lv_room (Nat.le_of_ble_eq_true rfl)) dX1_size_64 ⟨Nat.zero_le _, Nat.zero_le _⟩)) (fun r_3 hr_3 => ?_)
    replace hr_3 := hr_3.symm
    subst hr_3
    exact W.iret (v := nI n2) hx hb hr (fun t ht hW => ⟨nI n2, rfl, Or.inr (Or.inr (Or.inl ⟨rfl, rfl⟩)), ht⟩) (fun _ h => nomatch h) dX1_size_67
  · refine lv_tableIn (tgt := 68) hx hb dX1_size_1 (by decide) (by decide) (off := 67) (by decide) (by decide) ?_
    refine lv_aload_n hx hb dX1_size_68 rfl (lv_at hl 0 rfl) ?_
    refine va_get (D := D) (ci := 1) (v := .ref s3) (C := RX1) (T := TX1) (N := 9) hx hb hts lk1 hown hK hP 0 rfl rfl 3 (by decide) lk4 (fun _ h9 => h9) rfl dX1_size_69 ?_
    refine lv_iconst (v := nI 0) hx hb dX1_size_72 (by decide) ?_
    refine vp_callSi (va_Run.run (va_runV (As := [.int (nI 0)]) (rest := []) ⟨hx, hb, hml, hown, hts⟩ (c_X0_groups l D cI cJ s3 ka3 va3 512 n3 K3 V3 (nI 0) (by omega) (by omega)) (cwV 1 hts gX1_size_X0_groups rfl rfl rfl (by decide +kernel) ⟨Nat.le_of_ble_eq_true rfl, Nat.le_of_ble_eq_true rfl⟩) (z_preV hK hP [10, 11, 12] rfl 0 10 rfl rfl) rfl rfl hl.1 rfl (lv_room (Nat.le_of_ble_eq_true rfl)) dX1_size_73 ⟨Nat.zero_le _, Nat.zero_le _⟩)) (fun r_4 hr_4 => ?_)
    replace hr_4 := hr_4.symm
    subst hr_4
    exact W.iret (v := nI (grp (fun i => K3 i >>> ((nI 0).toInt64 &&& 63)) n3)) hx hb hr (fun t ht hW => ⟨nI (grp (fun i => K3 i >>> ((nI 0).toInt64 &&& 63)) n3), rfl, Or.inr (Or.inr (Or.inr (Or.inl ⟨rfl, rfl⟩))), ht⟩) (fun _ h => nomatch h) dX1_size_76
  · refine lv_tableIn (tgt := 77) hx hb dX1_size_1 (by decide) (by decide) (off := 76) (by decide) (by decide) ?_
    refine lv_aload_n hx hb dX1_size_77 rfl (lv_at hl 0 rfl) ?_
    refine va_get (D := D) (ci := 1) (v := .ref s5) (C := RX1) (T := TX1) (N := 9) hx hb hts lk1 hown hK hP 0 rfl rfl 5 (by decide) lk5 (fun _ h9 => h9) rfl dX1_size_78 ?_
    refine vp_callSi (va_Run.run (va_runV (As := []) (rest := []) ⟨hx, hb, hml, hown, hts⟩ (c_X0_held l D cI cJ s5 ka5 va5 752 n5 K5 V5  ) (cwV 0 hts gX1_size_X0_held rfl rfl rfl (by decide +kernel) ⟨Nat.le_of_ble_eq_true rfl, Nat.le_of_ble_eq_true rfl⟩) (z_preV hK hP [16, 17, 18] rfl 0 16 rfl rfl) rfl rfl hl.1 rfl (lv_room (Nat.le_of_ble_eq_true rfl)) dX1_size_81 ⟨Nat.zero_le _, Nat.zero_le _⟩)) (fun r_5 hr_5 => ?_)
    replace hr_5 := hr_5.symm
    subst hr_5
    exact W.iret (v := nI n5) hx hb hr (fun t ht hW => ⟨nI n5, rfl, Or.inr (Or.inr (Or.inr (Or.inr (Or.inl ⟨rfl, rfl⟩)))), ht⟩) (fun _ h => nomatch h) dX1_size_84
  · refine lv_tableIn (tgt := 85) hx hb dX1_size_1 (by decide) (by decide) (off := 84) (by decide) (by decide) ?_
    refine lv_aload_n hx hb dX1_size_85 rfl (lv_at hl 0 rfl) ?_
    refine va_get (D := D) (ci := 1) (v := .ref s4) (C := RX1) (T := TX1) (N := 9) hx hb hts lk1 hown hK hP 0 rfl rfl 4 (by decide) lk6 (fun _ h9 => h9) rfl dX1_size_86 ?_
    refine lv_bipush (v := nI 32) hx hb dX1_size_89 (by decide) ?_
    refine vp_callSi (va_Run.run (va_runV (As := [.int (nI 32)]) (rest := []) ⟨hx, hb, hml, hown, hts⟩ (c_X0_groups l D cI cJ s4 ka4 va4 512 n4 K4 V4 (nI 32) (by omega) (by omega)) (cwV 1 hts gX1_size_X0_groups rfl rfl rfl (by decide +kernel) ⟨Nat.le_of_ble_eq_true rfl, Nat.le_of_ble_eq_true rfl⟩) (z_preV hK hP [13, 14, 15] rfl 0 13 rfl rfl) rfl rfl hl.1 rfl (lv_room (Nat.le_of_ble_eq_true rfl)) dX1_size_91 ⟨Nat.zero_le _, Nat.zero_le _⟩)) (fun r_6 hr_6 => ?_)
    replace hr_6 := hr_6.symm
    subst hr_6
    exact W.iret (v := nI (grp (fun i => K4 i >>> ((nI 32).toInt64 &&& 63)) n4)) hx hb hr (fun t ht hW => ⟨nI (grp (fun i => K4 i >>> ((nI 32).toInt64 &&& 63)) n4), rfl, Or.inr (Or.inr (Or.inr (Or.inr (Or.inr (Or.inl ⟨rfl, rfl⟩))))), ht⟩) (fun _ h => nomatch h) dX1_size_94
  · refine lv_tableIn (tgt := 95) hx hb dX1_size_1 (by decide) (by decide) (off := 94) (by decide) (by decide) ?_
    refine lv_aload_n hx hb dX1_size_95 rfl (lv_at hl 0 rfl) ?_
    refine va_get (D := D) (ci := 1) (v := .ref s4) (C := RX1) (T := TX1) (N := 9) hx hb hts lk1 hown hK hP 0 rfl rfl 4 (by decide) lk6 (fun _ h9 => h9) rfl dX1_size_96 ?_
    refine vp_callSi (va_Run.run (va_runV (As := []) (rest := []) ⟨hx, hb, hml, hown, hts⟩ (c_X0_held l D cI cJ s4 ka4 va4 512 n4 K4 V4  ) (cwV 0 hts gX1_size_X0_held rfl rfl rfl (by decide +kernel) ⟨Nat.le_of_ble_eq_true rfl, Nat.le_of_ble_eq_true rfl⟩) (z_preV hK hP [13, 14, 15] rfl 0 13 rfl rfl) rfl rfl hl.1 rfl (lv_room (Nat.le_of_ble_eq_true rfl)) dX1_size_99 ⟨Nat.zero_le _, Nat.zero_le _⟩)) (fun r_7 hr_7 => ?_)
    replace hr_7 := hr_7.symm
    subst hr_7
    exact W.iret (v := nI n4) hx hb hr (fun t ht hW => ⟨nI n4, rfl, Or.inr (Or.inr (Or.inr (Or.inr (Or.inr (Or.inr (Or.inl ⟨rfl, rfl⟩)))))), ht⟩) (fun _ h => nomatch h) dX1_size_102
  · refine lv_tableOut (tgt := 103) hx hb dX1_size_1 hout (by decide) ?_
    refine lv_iconst (v := (-1)) hx hb dX1_size_103 (by decide) ?_
    exact W.iret (v := (-1)) hx hb hr (fun t ht hW => ⟨(-1), rfl, Or.inr (Or.inr (Or.inr (Or.inr (Or.inr (Or.inr (Or.inr ⟨hout, rfl⟩)))))), ht⟩) (fun _ h => nomatch h) dX1_size_104

set_option maxHeartbeats 4000000 in
set_option maxRecDepth 100000 in
theorem c_X2_init (l : Launch) (D : va_G) (cI cJ : ClassId) (o : Nat) (sz : Nat) : Met l yX2_init wsX2_init { frames := 1, cells := 3, slots := 48, locals := 22 } (va_Pc [.ref o] (wP D cI cJ [(o, .inr (2, [.null, .null, .null, .int (nI 0)]))] sz)) (va_Qv (fun (u : Nat × Nat × Nat) => True) (wB D cI cJ (va_A [(o, .inr (2, [.null, .null, .null, .int (nI 0)]))] sz) (fun (a0, b0, v0) => [(o, .inr (2, [.ref a0, .ref b0, .ref v0, .int (nI 0)])), (a0, .inl (cI, 16, .inl (fun _ => 0))), (b0, .inl (cI, 16, .inl (fun _ => 0))), (v0, .inl (cJ, 16, .inr (.inl (fun _ => 0))))])) (va_A [(o, .inr (2, [.null, .null, .null, .int (nI 0)]))] sz)) 3 48 (va_A [(o, .inr (2, [.null, .null, .null, .int (nI 0)]))] sz) := by
  refine Met.ofW (cc := cX2_init) (maxL := 1) (ret := none) (by decide) rfl ?_
  intro p e s m args below meth c s₁ B hml hv
  obtain ⟨rfl, hsz, hP, hK, hD0⟩ := hv
  have hx := B.exec
  have hb := B.bytes
  have hr := B.returns
  have hts := atoms_spec (ws := wsX2_init) B.pre
  have hown : s.vm.findClass RX2 = some m.cls := findClass_of_methodNamed B.named
  have hlocks := B.notSynchronized
  have hin : meth.name = "<init>" := (name_of_methodNamed B.named B.method).1
  have lk0 := hts (.methodLink RX2 1 objectInit) (by decide +kernel)
  have lk1 := hts (.instanceMethod objectInit) (by decide +kernel)
  have lk2 := hts (.code objectInit ⟨#[0xb1]⟩ 1 none) (by decide +kernel)
  have lk3 := hts (.arrayClass .int) (by decide +kernel)
  have lk4 := hts (.fieldLink RX2 7 "KeyHallModel$Rows" "a" "[I") (by decide +kernel)
  have lk5 : ∀ w ∈ wsX20, w ∈ wsX2_init := by decide +kernel
  have lk6 := hts (.fieldLink RX2 13 "KeyHallModel$Rows" "b" "[I") (by decide +kernel)
  have lk7 := hts (.arrayClass .long) (by decide +kernel)
  have lk8 := hts (.fieldLink RX2 16 "KeyHallModel$Rows" "v" "[J") (by decide +kernel)
  subst hsz
  have hD := hD0.self (sz := s.heap.size)
  generalize hAe : va_A [(o, .inr (2, [.null, .null, .null, .int (nI 0)]))] s.heap.size = A at hD ⊢
  have hA : ∀ q : Nat, s.heap.size ≤ q → A q := fun q h => by rw [← hAe]; exact Or.inr h
  have hS : va_S A s.heap s.heap [] := va_S.rf
  have hP : va_P D vwCl [(o, .inr (2, [.null, .null, .null, .int (nI 0)]))] s.heap := hP
  have hl := lv_entry ([.ref o]) (n := 1) (Nat.le_of_ble_eq_true rfl)
  rw [lg_entry_eq]
  generalize (lg_sl ([.ref o]) ++ List.replicate (1 - (lg_sl ([.ref o])).length) Slot.unset).toArray = ls at hl ⊢
  have hl : lv_has ls 1 [(0, .ref o)] := hl
  refine lv_aload_n hx hb dX2_init_0 rfl (lv_at hl 0 rfl) ?_
  refine W.objInit hx hb hown lk0 lk1 lk2 rfl (by rw [hml]; exact hl.1) rfl dX2_init_1 (Nat.le_of_ble_eq_true rfl) (Nat.le_of_ble_eq_true rfl) ?_
  refine W.eq (g2 := F0 m 4 ls []) rfl ?_
  refine lv_aload_n hx hb dX2_init_4 rfl (lv_at hl 0 rfl) ?_
  refine lv_bipush (v := nI 16) hx hb dX2_init_5 (by decide) ?_
  refine z_newI (N := 16) hx hb lk3 hK hP hD hS hA (by omega) (by show _ ≤ 3; omega) (by show _ ≤ 48; omega) dX2_init_7 (fun q_1 H hP hD hS => ?_)
  have hP : va_P D vwCl [(o, .inr (2, [.null, .null, .null, .int (nI 0)])), (q_1, .inl (cI, 16, .inl (fun _ => 0)))] H := hP
  have hD : va_D A [(o, .inr (2, [.null, .null, .null, .int (nI 0)])), (q_1, .inl (cI, 16, .inl (fun _ => 0)))] := hD
  refine va_put (D := D) (ci := 2) (v := .ref q_1) (ty := .array .int) (C := RX2) (T := TX2) (N := 4) hx hb hts lk5 tyX2 tyX2_ok nmX2 hown hK hP hD hS 0 rfl rfl 0 (by decide) lk4 (fun _ h9 => h9) rfl (by decide +kernel) rfl rfl (Nat.le_of_ble_eq_true rfl) dX2_init_9 (fun H locs hP hD hS => ?_)
  have hP : va_P D vwCl [(o, .inr (2, [.ref q_1, .null, .null, .int (nI 0)])), (q_1, .inl (cI, 16, .inl (fun _ => 0)))] H := hP
  have hD : va_D A [(o, .inr (2, [.ref q_1, .null, .null, .int (nI 0)])), (q_1, .inl (cI, 16, .inl (fun _ => 0)))] := hD
  refine lv_aload_n hx hb dX2_init_12 rfl (lv_at hl 0 rfl) ?_
  refine lv_bipush (v := nI 16) hx hb dX2_init_13 (by decide) ?_
  refine z_newI (N := 16) hx hb lk3 hK hP hD hS hA (by omega) (by show _ ≤ 3; omega) (by show _ ≤ 48; omega) dX2_init_15 (fun q_2 H hP hD hS => ?_)
  have hP : va_P D vwCl [(o, .inr (2, [.ref q_1, .null, .null, .int (nI 0)])), (q_1, .inl (cI, 16, .inl (fun _ => 0))), (q_2, .inl (cI, 16, .inl (fun _ => 0)))] H := hP
  have hD : va_D A [(o, .inr (2, [.ref q_1, .null, .null, .int (nI 0)])), (q_1, .inl (cI, 16, .inl (fun _ => 0))), (q_2, .inl (cI, 16, .inl (fun _ => 0)))] := hD
  refine va_put (D := D) (ci := 2) (v := .ref q_2) (ty := .array .int) (C := RX2) (T := TX2) (N := 4) hx hb hts lk5 tyX2 tyX2_ok nmX2 hown hK hP hD hS 0 rfl rfl 1 (by decide) lk6 (fun _ h9 => h9) rfl (by decide +kernel) rfl rfl (Nat.le_of_ble_eq_true rfl) dX2_init_17 (fun H locs hP hD hS => ?_)
  have hP : va_P D vwCl [(o, .inr (2, [.ref q_1, .ref q_2, .null, .int (nI 0)])), (q_1, .inl (cI, 16, .inl (fun _ => 0))), (q_2, .inl (cI, 16, .inl (fun _ => 0)))] H := hP
  have hD : va_D A [(o, .inr (2, [.ref q_1, .ref q_2, .null, .int (nI 0)])), (q_1, .inl (cI, 16, .inl (fun _ => 0))), (q_2, .inl (cI, 16, .inl (fun _ => 0)))] := hD
  refine lv_aload_n hx hb dX2_init_20 rfl (lv_at hl 0 rfl) ?_
  refine lv_bipush (v := nI 16) hx hb dX2_init_21 (by decide) ?_
  refine z_newJ (N := 16) hx hb lk7 hK hP hD hS hA (by omega) (by show _ ≤ 3; omega) (by show _ ≤ 48; omega) dX2_init_23 (fun q_3 H hP hD hS => ?_)
  have hP : va_P D vwCl [(o, .inr (2, [.ref q_1, .ref q_2, .null, .int (nI 0)])), (q_1, .inl (cI, 16, .inl (fun _ => 0))), (q_2, .inl (cI, 16, .inl (fun _ => 0))), (q_3, .inl (cJ, 16, .inr (.inl (fun _ => 0))))] H := hP
  have hD : va_D A [(o, .inr (2, [.ref q_1, .ref q_2, .null, .int (nI 0)])), (q_1, .inl (cI, 16, .inl (fun _ => 0))), (q_2, .inl (cI, 16, .inl (fun _ => 0))), (q_3, .inl (cJ, 16, .inr (.inl (fun _ => 0))))] := hD
  refine va_put (D := D) (ci := 2) (v := .ref q_3) (ty := .array .long) (C := RX2) (T := TX2) (N := 4) hx hb hts lk5 tyX2 tyX2_ok nmX2 hown hK hP hD hS 0 rfl rfl 2 (by decide) lk8 (fun _ h9 => h9) rfl (by decide +kernel) rfl rfl (Nat.le_of_ble_eq_true rfl) dX2_init_25 (fun H locs hP hD hS => ?_)
  have hP : va_P D vwCl [(o, .inr (2, [.ref q_1, .ref q_2, .ref q_3, .int (nI 0)])), (q_1, .inl (cI, 16, .inl (fun _ => 0))), (q_2, .inl (cI, 16, .inl (fun _ => 0))), (q_3, .inl (cJ, 16, .inr (.inl (fun _ => 0))))] H := hP
  have hD : va_D A [(o, .inr (2, [.ref q_1, .ref q_2, .ref q_3, .int (nI 0)])), (q_1, .inl (cI, 16, .inl (fun _ => 0))), (q_2, .inl (cI, 16, .inl (fun _ => 0))), (q_3, .inl (cJ, 16, .inr (.inl (fun _ => 0))))] := hD
  refine W.widen (k := 3) (n := 48) (by omega) (by omega) ?_
  exact W.vret hx hb hr (fun t ht hW => ⟨⟨(q_1, q_2, q_3), rfl, trivial, by rw [ht]; exact hP, va_K.moved hW.alike hK, hD⟩, hS.F ht⟩) hS.2.2 dX2_init_28

set_option maxHeartbeats 4000000 in
set_option maxRecDepth 100000 in
theorem c_X2_find (l : Launch) (D : va_G) (cI cJ : ClassId) (o a0 b0 v0 cap n : Nat) (fa fb : Nat → Int32) (fv : Nat → Int64) (x y : Int32) (hn : n ≤ cap) (hc : cap ≤ 1100) : Met l yX2_find wsX2_find { frames := 0, cells := 0, slots := 0, locals := 0 } (va_Pc [.ref o, .int x, .int y] (rP D cI cJ [(o, .inr (2, [.ref a0, .ref b0, .ref v0, .int (nI n)])), (a0, .inl (cI, cap, .inl fa)), (b0, .inl (cI, cap, .inl fb)), (v0, .inl (cJ, cap, .inr (.inl fv)))])) (vp_Si (fun r => FdL (rl n fa fb fv) x y r)) 0 0 (fun _ => False) := by
  refine Met.ofW (cc := cX2_find) (maxL := 4) (ret := (some .int)) (by decide) rfl ?_
  intro p e s m args below meth c s₁ B hml hv
  obtain ⟨rfl, hP, hK⟩ := hv
  have hx := B.exec
  have hb := B.bytes
  have hr := B.returns
  have hts := atoms_spec (ws := wsX2_find) B.pre
  have hown : s.vm.findClass RX2 = some m.cls := findClass_of_methodNamed B.named
  have hlocks := B.notSynchronized
  have lk0 := hts (.fieldLink RX2 20 "KeyHallModel$Rows" "many" "I") (by decide +kernel)
  have lk1 : ∀ w ∈ wsX20, w ∈ wsX2_find := by decide +kernel
  have lk2 := hts (.fieldLink RX2 7 "KeyHallModel$Rows" "a" "[I") (by decide +kernel)
  have lk3 := hts (.fieldLink RX2 13 "KeyHallModel$Rows" "b" "[I") (by decide +kernel)
  have hl := lv_entry ([.ref o, .int x, .int y]) (n := 4) (Nat.le_of_ble_eq_true rfl)
  rw [lg_entry_eq]
  generalize (lg_sl ([.ref o, .int x, .int y]) ++ List.replicate (4 - (lg_sl ([.ref o, .int x, .int y])).length) Slot.unset).toArray = ls at hl ⊢
  have hl : lv_has ls 4 [(0, .ref o), (1, .int x), (2, .int y)] := hl
  refine lv_iconst (v := nI 0) hx hb dX2_find_0 (by decide) ?_
  refine lv_istore_n (lv' := [(3, .int (nI 0)), (0, .ref o), (1, .int x), (2, .int y)]) hx hb dX2_find_1 rfl hl (by decide) rfl (fun ls hl => ?_)
  refine z_loop (σ := Nat) (fun i => n - i) (fun i ls => lv_has ls 4 [(0, .ref o), (1, .int x), (2, .int y), (3, .int (nI i))] ∧ (i ≤ n) ∧ (∀ j, j < i → ¬ (fa j = x ∧ fb j = y))) ?_ (0) _ ⟨lv_sub hl [1, 2, 3, 0] rfl, Nat.zero_le _, fun j h => absurd h (Nat.not_lt_zero j)⟩
  rintro i ls ⟨hl, hi, h1⟩ ih
  have hl : lv_has ls 4 [(0, .ref o), (1, .int x), (2, .int y), (3, .int (nI i))] := hl
  refine lv_iload_n hx hb dX2_find_2 rfl (lv_at hl 3 rfl) ?_
  refine lv_aload_n hx hb dX2_find_3 rfl (lv_at hl 0 rfl) ?_
  refine va_get (D := D) (ci := 2) (v := .int (nI n)) (C := RX2) (T := TX2) (N := 4) hx hb hts lk1 hown hK hP 0 rfl rfl 3 (by decide) lk0 (fun _ h9 => h9) rfl dX2_find_4 ?_
  refine z_icmp_ge (tgt := 38) hx hb dX2_find_7 (by decide) (by omega) (by omega) (fun c_7 => ?_) (fun c_7 => ?_)
  · refine lv_iconst (v := (-1)) hx hb dX2_find_38 (by decide) ?_
    exact W.iret (v := (-1)) hx hb hr (fun t ht hW => ⟨(-1), rfl, Or.inr ⟨FdL.of (fun j hj => h1 j (by omega)), rfl⟩, ht⟩) (fun _ h => nomatch h) dX2_find_39
  · refine lv_aload_n hx hb dX2_find_10 rfl (lv_at hl 0 rfl) ?_
    refine va_get (D := D) (ci := 2) (v := .ref a0) (C := RX2) (T := TX2) (N := 4) hx hb hts lk1 hown hK hP 0 rfl rfl 0 (by decide) lk2 (fun _ h9 => h9) rfl dX2_find_11 ?_
    refine lv_iload_n hx hb dX2_find_14 rfl (lv_at hl 3 rfl) ?_
    refine z_iald hx hb hK hP 1 rfl (j := i) (by omega) (by omega) dX2_find_15 ?_
    refine lv_iload_n hx hb dX2_find_16 rfl (lv_at hl 1 rfl) ?_
    refine lv_icmp_ne (tgt := 32) hx hb dX2_find_17 (by decide) (fun c_17 => ?_) (fun c_17 => ?_)
    · refine lv_iinc (v := nI (i + 1)) (lv' := [(3, .int (nI (i + 1))), (0, .ref o), (1, .int x), (2, .int y)]) hx hb dX2_find_32 hl (k := 3) rfl (nI_add i 1) (by decide) rfl (fun ls hl => ?_)
      refine lv_goto (tgt := 2) hx hb dX2_find_35 (by decide) ?_
      exact ih (i + 1) _ ⟨lv_sub hl [1, 2, 3, 0] rfl, by omega, fun j hj => (Nat.lt_succ_iff_lt_or_eq.mp hj).elim (h1 j) (fun q => q ▸ (fun q => c_17 q.1))⟩ (by first | omega | (dsimp only; omega))
    · refine lv_aload_n hx hb dX2_find_20 rfl (lv_at hl 0 rfl) ?_
      refine va_get (D := D) (ci := 2) (v := .ref b0) (C := RX2) (T := TX2) (N := 4) hx hb hts lk1 hown hK hP 0 rfl rfl 1 (by decide) lk3 (fun _ h9 => h9) rfl dX2_find_21 ?_
      refine lv_iload_n hx hb dX2_find_24 rfl (lv_at hl 3 rfl) ?_
      refine z_iald hx hb hK hP 2 rfl (j := i) (by omega) (by omega) dX2_find_25 ?_
      refine lv_iload_n hx hb dX2_find_26 rfl (lv_at hl 2 rfl) ?_
      refine lv_icmp_ne (tgt := 32) hx hb dX2_find_27 (by decide) (fun c_27 => ?_) (fun c_27 => ?_)
      · refine lv_iinc (v := nI (i + 1)) (lv' := [(3, .int (nI (i + 1))), (0, .ref o), (1, .int x), (2, .int y)]) hx hb dX2_find_32 hl (k := 3) rfl (nI_add i 1) (by decide) rfl (fun ls hl => ?_)
        refine lv_goto (tgt := 2) hx hb dX2_find_35 (by decide) ?_
        exact ih (i + 1) _ ⟨lv_sub hl [1, 2, 3, 0] rfl, by omega, fun j hj => (Nat.lt_succ_iff_lt_or_eq.mp hj).elim (h1 j) (fun q => q ▸ (fun q => c_27 q.2))⟩ (by first | omega | (dsimp only; omega))
      · refine lv_iload_n hx hb dX2_find_30 rfl (lv_at hl 3 rfl) ?_
        exact W.iret (v := nI i) hx hb hr (fun t ht hW => ⟨nI i, rfl, Or.inl ⟨i, _, rl_get c_7, c_17, c_27, rfl⟩, ht⟩) (fun _ h => nomatch h) dX2_find_31

set_option maxHeartbeats 4000000 in
set_option maxRecDepth 100000 in
theorem c_X2_add (l : Launch) (D : va_G) (cI cJ : ClassId) (o a0 b0 v0 cap n : Nat) (fa fb : Nat → Int32) (fv : Nat → Int64) (x y : Int32) (z : Int64) (hn : n ≤ cap) (hc : cap ≤ 1100) (h16 : 16 ≤ cap) (mc ms : Nat) (hroom : n = cap → 3 ≤ mc ∧ 6 * cap ≤ ms) (sz : Nat) : Met l yX2_add wsX2_add { frames := 0, cells := mc, slots := ms, locals := 0 } (va_Pc [.ref o, .int x, .int y, .long z] (wP D cI cJ [(o, .inr (2, [.ref a0, .ref b0, .ref v0, .int (nI n)])), (a0, .inl (cI, cap, .inl fa)), (b0, .inl (cI, cap, .inl fb)), (v0, .inl (cJ, cap, .inr (.inl fv)))] sz)) (va_Qv (fun (u : Nat × Nat × Nat × Nat × (Nat → Int32) × (Nat → Int32) × (Nat → Int64)) => match u with | (a', b', v', cap', fa', fb', fv') => rl (n + 1) fa' fb' fv' = rl n fa fb fv ++ [(x, y, z)] ∧ n + 1 ≤ cap' ∧ 16 ≤ cap' ∧ (cap' = cap ∨ (n = cap ∧ cap' = 2 * n)) ∧ 6 * cap + (if n = cap then 6 * cap else 0) = 6 * cap') (wB D cI cJ (va_A [(o, .inr (2, [.ref a0, .ref b0, .ref v0, .int (nI n)])), (a0, .inl (cI, cap, .inl fa)), (b0, .inl (cI, cap, .inl fb)), (v0, .inl (cJ, cap, .inr (.inl fv)))] sz) (fun (a', b', v', cap', fa', fb', fv') => [(o, .inr (2, [.ref a', .ref b', .ref v', .int (nI (n + 1))])), (a', .inl (cI, cap', .inl fa')), (b', .inl (cI, cap', .inl fb')), (v', .inl (cJ, cap', .inr (.inl fv')))])) (va_A [(o, .inr (2, [.ref a0, .ref b0, .ref v0, .int (nI n)])), (a0, .inl (cI, cap, .inl fa)), (b0, .inl (cI, cap, .inl fb)), (v0, .inl (cJ, cap, .inr (.inl fv)))] sz)) mc ms (va_A [(o, .inr (2, [.ref a0, .ref b0, .ref v0, .int (nI n)])), (a0, .inl (cI, cap, .inl fa)), (b0, .inl (cI, cap, .inl fb)), (v0, .inl (cJ, cap, .inr (.inl fv)))] sz) := by
  refine Met.ofW (cc := cX2_add) (maxL := 9) (ret := none) (by decide) rfl ?_
  intro p e s m args below meth c s₁ B hml hv
  obtain ⟨rfl, hsz, hP, hK, hD0⟩ := hv
  have hx := B.exec
  have hb := B.bytes
  have hr := B.returns
  have hts := atoms_spec (ws := wsX2_add) B.pre
  have hown : s.vm.findClass RX2 = some m.cls := findClass_of_methodNamed B.named
  have hlocks := B.notSynchronized
  have lk0 := hts (.fieldLink RX2 20 "KeyHallModel$Rows" "many" "I") (by decide +kernel)
  have lk1 : ∀ w ∈ wsX20, w ∈ wsX2_add := by decide +kernel
  have lk2 := hts (.fieldLink RX2 7 "KeyHallModel$Rows" "a" "[I") (by decide +kernel)
  have lk3 := hts (.fieldLink RX2 13 "KeyHallModel$Rows" "b" "[I") (by decide +kernel)
  have lk4 := hts (.fieldLink RX2 16 "KeyHallModel$Rows" "v" "[J") (by decide +kernel)
  have lk5 := hts (.arrayClass .int) (by decide +kernel)
  have lk6 := hts (.arrayClass .long) (by decide +kernel)
  subst hsz
  have hD := hD0.self (sz := s.heap.size)
  generalize hAe : va_A [(o, .inr (2, [.ref a0, .ref b0, .ref v0, .int (nI n)])), (a0, .inl (cI, cap, .inl fa)), (b0, .inl (cI, cap, .inl fb)), (v0, .inl (cJ, cap, .inr (.inl fv)))] s.heap.size = A at hD ⊢
  have hA : ∀ q : Nat, s.heap.size ≤ q → A q := fun q h => by rw [← hAe]; exact Or.inr h
  have hS : va_S A s.heap s.heap [] := va_S.rf
  have hP : va_P D vwCl [(o, .inr (2, [.ref a0, .ref b0, .ref v0, .int (nI n)])), (a0, .inl (cI, cap, .inl fa)), (b0, .inl (cI, cap, .inl fb)), (v0, .inl (cJ, cap, .inr (.inl fv)))] s.heap := hP
  have hl := lv_entry ([.ref o, .int x, .int y, .long z]) (n := 9) (Nat.le_of_ble_eq_true rfl)
  rw [lg_entry_eq]
  generalize (lg_sl ([.ref o, .int x, .int y, .long z]) ++ List.replicate (9 - (lg_sl ([.ref o, .int x, .int y, .long z])).length) Slot.unset).toArray = ls at hl ⊢
  have hl : lv_has ls 9 [(0, .ref o), (1, .int x), (2, .int y), (3, .long z)] := hl
  refine lv_aload_n hx hb dX2_add_0 rfl (lv_at hl 0 rfl) ?_
  refine va_get (D := D) (ci := 2) (v := .int (nI n)) (C := RX2) (T := TX2) (N := 4) hx hb hts lk1 hown hK hP 0 rfl rfl 3 (by decide) lk0 (fun _ h9 => h9) rfl dX2_add_1 ?_
  refine lv_aload_n hx hb dX2_add_4 rfl (lv_at hl 0 rfl) ?_
  refine va_get (D := D) (ci := 2) (v := .ref a0) (C := RX2) (T := TX2) (N := 4) hx hb hts lk1 hown hK hP 0 rfl rfl 0 (by decide) lk2 (fun _ h9 => h9) rfl dX2_add_5 ?_
  refine va_alen (v := nI cap) hx hb hK hP 1 0 rfl rfl rfl dX2_add_8 ?_
  refine z_icmp_ne (tgt := 114) hx hb dX2_add_9 (by decide) (by omega) (by omega) (fun c_9 => ?_) (fun c_9 => ?_)
  · refine lv_aload_n hx hb dX2_add_114 rfl (lv_at hl 0 rfl) ?_
    refine va_get (D := D) (ci := 2) (v := .ref a0) (C := RX2) (T := TX2) (N := 4) hx hb hts lk1 hown hK hP 0 rfl rfl 0 (by decide) lk2 (fun _ h9 => h9) rfl dX2_add_115 ?_
    refine lv_aload_n hx hb dX2_add_118 rfl (lv_at hl 0 rfl) ?_
    refine va_get (D := D) (ci := 2) (v := .int (nI n)) (C := RX2) (T := TX2) (N := 4) hx hb hts lk1 hown hK hP 0 rfl rfl 3 (by decide) lk0 (fun _ h9 => h9) rfl dX2_add_119 ?_
    refine lv_iload_n hx hb dX2_add_122 rfl (lv_at hl 1 rfl) ?_
    refine z_iast hx hb hK hP hD hS 1 rfl (j := n) (by omega) (by omega) dX2_add_123 (fun H locs hP hD hS => ?_)
    have hP : va_P D vwCl [(o, .inr (2, [.ref a0, .ref b0, .ref v0, .int (nI n)])), (a0, .inl (cI, cap, .inl (upd fa n x))), (b0, .inl (cI, cap, .inl fb)), (v0, .inl (cJ, cap, .inr (.inl fv)))] H := hP
    have hD : va_D A [(o, .inr (2, [.ref a0, .ref b0, .ref v0, .int (nI n)])), (a0, .inl (cI, cap, .inl (upd fa n x))), (b0, .inl (cI, cap, .inl fb)), (v0, .inl (cJ, cap, .inr (.inl fv)))] := hD
    refine lv_aload_n hx hb dX2_add_124 rfl (lv_at hl 0 rfl) ?_
    refine va_get (D := D) (ci := 2) (v := .ref b0) (C := RX2) (T := TX2) (N := 4) hx hb hts lk1 hown hK hP 0 rfl rfl 1 (by decide) lk3 (fun _ h9 => h9) rfl dX2_add_125 ?_
    refine lv_aload_n hx hb dX2_add_128 rfl (lv_at hl 0 rfl) ?_
    refine va_get (D := D) (ci := 2) (v := .int (nI n)) (C := RX2) (T := TX2) (N := 4) hx hb hts lk1 hown hK hP 0 rfl rfl 3 (by decide) lk0 (fun _ h9 => h9) rfl dX2_add_129 ?_
    refine lv_iload_n hx hb dX2_add_132 rfl (lv_at hl 2 rfl) ?_
    refine z_iast hx hb hK hP hD hS 2 rfl (j := n) (by omega) (by omega) dX2_add_133 (fun H locs hP hD hS => ?_)
    have hP : va_P D vwCl [(o, .inr (2, [.ref a0, .ref b0, .ref v0, .int (nI n)])), (a0, .inl (cI, cap, .inl (upd fa n x))), (b0, .inl (cI, cap, .inl (upd fb n y))), (v0, .inl (cJ, cap, .inr (.inl fv)))] H := hP
    have hD : va_D A [(o, .inr (2, [.ref a0, .ref b0, .ref v0, .int (nI n)])), (a0, .inl (cI, cap, .inl (upd fa n x))), (b0, .inl (cI, cap, .inl (upd fb n y))), (v0, .inl (cJ, cap, .inr (.inl fv)))] := hD
    refine lv_aload_n hx hb dX2_add_134 rfl (lv_at hl 0 rfl) ?_
    refine va_get (D := D) (ci := 2) (v := .ref v0) (C := RX2) (T := TX2) (N := 4) hx hb hts lk1 hown hK hP 0 rfl rfl 2 (by decide) lk4 (fun _ h9 => h9) rfl dX2_add_135 ?_
    refine lv_aload_n hx hb dX2_add_138 rfl (lv_at hl 0 rfl) ?_
    refine lv_dup hx hb dX2_add_139 rfl ?_
    refine va_get (D := D) (ci := 2) (v := .int (nI n)) (C := RX2) (T := TX2) (N := 4) hx hb hts lk1 hown hK hP 0 rfl rfl 3 (by decide) lk0 (fun _ h9 => h9) rfl dX2_add_140 ?_
    refine lv_dup_x1 hx hb dX2_add_143 rfl rfl ?_
    refine lv_iconst (v := nI 1) hx hb dX2_add_144 (by decide) ?_
    refine z_iadd hx hb dX2_add_145 ?_
    refine va_put (D := D) (ci := 2) (v := .int (nI (n + 1))) (ty := .int) (C := RX2) (T := TX2) (N := 4) hx hb hts lk1 tyX2 tyX2_ok nmX2 hown hK hP hD hS 0 rfl rfl 3 (by decide) lk0 (fun _ h9 => h9) rfl (by decide +kernel) rfl rfl (Nat.le_of_ble_eq_true rfl) dX2_add_146 (fun H locs hP hD hS => ?_)
    have hP : va_P D vwCl [(o, .inr (2, [.ref a0, .ref b0, .ref v0, .int (nI (n + 1))])), (a0, .inl (cI, cap, .inl (upd fa n x))), (b0, .inl (cI, cap, .inl (upd fb n y))), (v0, .inl (cJ, cap, .inr (.inl fv)))] H := hP
    have hD : va_D A [(o, .inr (2, [.ref a0, .ref b0, .ref v0, .int (nI (n + 1))])), (a0, .inl (cI, cap, .inl (upd fa n x))), (b0, .inl (cI, cap, .inl (upd fb n y))), (v0, .inl (cJ, cap, .inr (.inl fv)))] := hD
    refine lv_lload_n hx hb dX2_add_149 rfl (lv_at hl 3 rfl) ?_
    refine z_last hx hb hK hP hD hS 3 rfl (j := n) (by omega) (by omega) dX2_add_150 (fun H locs hP hD hS => ?_)
    have hP : va_P D vwCl [(o, .inr (2, [.ref a0, .ref b0, .ref v0, .int (nI (n + 1))])), (a0, .inl (cI, cap, .inl (upd fa n x))), (b0, .inl (cI, cap, .inl (upd fb n y))), (v0, .inl (cJ, cap, .inr (.inl (vp_updL fv n z))))] H := hP
    have hD : va_D A [(o, .inr (2, [.ref a0, .ref b0, .ref v0, .int (nI (n + 1))])), (a0, .inl (cI, cap, .inl (upd fa n x))), (b0, .inl (cI, cap, .inl (upd fb n y))), (v0, .inl (cJ, cap, .inr (.inl (vp_updL fv n z))))] := hD
    refine W.widen (k := mc) (n := ms) (by omega) (by omega) ?_
    exact W.vret hx hb hr (fun t ht hW => ⟨⟨(a0, b0, v0, cap, upd fa n x, upd fb n y, vp_updL fv n z), rfl, ⟨rl_add (fun j _ => ⟨rfl, rfl, rfl⟩), by omega, by omega, Or.inl rfl, by rw [if_neg c_9]; omega⟩, by rw [ht]; exact (hP.sub [0, 1, 2, 3] rfl), va_K.moved hW.alike hK, (hD.sub [0, 1, 2, 3] (by decide) rfl)⟩, hS.F ht⟩) hS.2.2 dX2_add_151
  · obtain ⟨hr1, hr2⟩ := hroom c_9
    refine lv_iconst (v := nI 2) hx hb dX2_add_12 (by decide) ?_
    refine lv_aload_n hx hb dX2_add_13 rfl (lv_at hl 0 rfl) ?_
    refine va_get (D := D) (ci := 2) (v := .int (nI n)) (C := RX2) (T := TX2) (N := 4) hx hb hts lk1 hown hK hP 0 rfl rfl 3 (by decide) lk0 (fun _ h9 => h9) rfl dX2_add_14 ?_
    refine z_imul hx hb dX2_add_17 ?_
    refine z_newI (N := 2 * n) hx hb lk5 hK hP hD hS hA (by omega) (by show _ ≤ mc; omega) (by show _ ≤ ms; omega) dX2_add_18 (fun q_1 H hP hD hS => ?_)
    have hP : va_P D vwCl [(o, .inr (2, [.ref a0, .ref b0, .ref v0, .int (nI n)])), (a0, .inl (cI, cap, .inl fa)), (b0, .inl (cI, cap, .inl fb)), (v0, .inl (cJ, cap, .inr (.inl fv))), (q_1, .inl (cI, (2 * n), .inl (fun _ => 0)))] H := hP
    have hD : va_D A [(o, .inr (2, [.ref a0, .ref b0, .ref v0, .int (nI n)])), (a0, .inl (cI, cap, .inl fa)), (b0, .inl (cI, cap, .inl fb)), (v0, .inl (cJ, cap, .inr (.inl fv))), (q_1, .inl (cI, (2 * n), .inl (fun _ => 0)))] := hD
    refine lv_astore (lv' := [(5, .ref q_1), (0, .ref o), (1, .int x), (2, .int y), (3, .long z)]) hx hb dX2_add_20 hl (by decide) rfl (fun ls hl => ?_)
    refine lv_iconst (v := nI 2) hx hb dX2_add_22 (by decide) ?_
    refine lv_aload_n hx hb dX2_add_23 rfl (lv_at hl 1 rfl) ?_
    refine va_get (D := D) (ci := 2) (v := .int (nI n)) (C := RX2) (T := TX2) (N := 4) hx hb hts lk1 hown hK hP 0 rfl rfl 3 (by decide) lk0 (fun _ h9 => h9) rfl dX2_add_24 ?_
    refine z_imul hx hb dX2_add_27 ?_
    refine z_newI (N := 2 * n) hx hb lk5 hK hP hD hS hA (by omega) (by show _ ≤ mc; omega) (by show _ ≤ ms; omega) dX2_add_28 (fun q_2 H hP hD hS => ?_)
    have hP : va_P D vwCl [(o, .inr (2, [.ref a0, .ref b0, .ref v0, .int (nI n)])), (a0, .inl (cI, cap, .inl fa)), (b0, .inl (cI, cap, .inl fb)), (v0, .inl (cJ, cap, .inr (.inl fv))), (q_1, .inl (cI, (2 * n), .inl (fun _ => 0))), (q_2, .inl (cI, (2 * n), .inl (fun _ => 0)))] H := hP
    have hD : va_D A [(o, .inr (2, [.ref a0, .ref b0, .ref v0, .int (nI n)])), (a0, .inl (cI, cap, .inl fa)), (b0, .inl (cI, cap, .inl fb)), (v0, .inl (cJ, cap, .inr (.inl fv))), (q_1, .inl (cI, (2 * n), .inl (fun _ => 0))), (q_2, .inl (cI, (2 * n), .inl (fun _ => 0)))] := hD
    refine lv_astore (lv' := [(6, .ref q_2), (5, .ref q_1), (0, .ref o), (1, .int x), (2, .int y), (3, .long z)]) hx hb dX2_add_30 hl (by decide) rfl (fun ls hl => ?_)
    refine lv_iconst (v := nI 2) hx hb dX2_add_32 (by decide) ?_
    refine lv_aload_n hx hb dX2_add_33 rfl (lv_at hl 2 rfl) ?_
    refine va_get (D := D) (ci := 2) (v := .int (nI n)) (C := RX2) (T := TX2) (N := 4) hx hb hts lk1 hown hK hP 0 rfl rfl 3 (by decide) lk0 (fun _ h9 => h9) rfl dX2_add_34 ?_
    refine z_imul hx hb dX2_add_37 ?_
    refine z_newJ (N := 2 * n) hx hb lk6 hK hP hD hS hA (by omega) (by show _ ≤ mc; omega) (by show _ ≤ ms; omega) dX2_add_38 (fun q_3 H hP hD hS => ?_)
    have hP : va_P D vwCl [(o, .inr (2, [.ref a0, .ref b0, .ref v0, .int (nI n)])), (a0, .inl (cI, cap, .inl fa)), (b0, .inl (cI, cap, .inl fb)), (v0, .inl (cJ, cap, .inr (.inl fv))), (q_1, .inl (cI, (2 * n), .inl (fun _ => 0))), (q_2, .inl (cI, (2 * n), .inl (fun _ => 0))), (q_3, .inl (cJ, (2 * n), .inr (.inl (fun _ => 0))))] H := hP
    have hD : va_D A [(o, .inr (2, [.ref a0, .ref b0, .ref v0, .int (nI n)])), (a0, .inl (cI, cap, .inl fa)), (b0, .inl (cI, cap, .inl fb)), (v0, .inl (cJ, cap, .inr (.inl fv))), (q_1, .inl (cI, (2 * n), .inl (fun _ => 0))), (q_2, .inl (cI, (2 * n), .inl (fun _ => 0))), (q_3, .inl (cJ, (2 * n), .inr (.inl (fun _ => 0))))] := hD
    refine lv_astore (lv' := [(7, .ref q_3), (6, .ref q_2), (5, .ref q_1), (0, .ref o), (1, .int x), (2, .int y), (3, .long z)]) hx hb dX2_add_40 hl (by decide) rfl (fun ls hl => ?_)
    refine lv_iconst (v := nI 0) hx hb dX2_add_42 (by decide) ?_
    refine lv_istore (lv' := [(8, .int (nI 0)), (7, .ref q_3), (6, .ref q_2), (5, .ref q_1), (0, .ref o), (1, .int x), (2, .int y), (3, .long z)]) hx hb dX2_add_43 hl (by decide) rfl (fun ls hl => ?_)
    refine z_loopw (σ := Nat × (Nat → Int32) × (Nat → Int32) × (Nat → Int64)) (fun (i, c1, d1, w1) => n - i) (fun (i, c1, d1, w1) H locs ls => va_P D vwCl [(o, .inr (2, [.ref a0, .ref b0, .ref v0, .int (nI n)])), (a0, .inl (cI, cap, .inl fa)), (b0, .inl (cI, cap, .inl fb)), (v0, .inl (cJ, cap, .inr (.inl fv))), (q_1, .inl (cI, (2 * n), .inl c1)), (q_2, .inl (cI, (2 * n), .inl d1)), (q_3, .inl (cJ, (2 * n), .inr (.inl w1)))] H ∧ va_D A [(o, .inr (2, [.ref a0, .ref b0, .ref v0, .int (nI n)])), (a0, .inl (cI, cap, .inl fa)), (b0, .inl (cI, cap, .inl fb)), (v0, .inl (cJ, cap, .inr (.inl fv))), (q_1, .inl (cI, (2 * n), .inl c1)), (q_2, .inl (cI, (2 * n), .inl d1)), (q_3, .inl (cJ, (2 * n), .inr (.inl w1)))] ∧ va_S A s.heap H locs ∧ lv_has ls 9 [(0, .ref o), (1, .int x), (2, .int y), (3, .long z), (5, .ref q_1), (6, .ref q_2), (7, .ref q_3), (8, .int (nI i))] ∧ (i ≤ n) ∧ (∀ j, j < i → c1 j = fa j ∧ d1 j = fb j ∧ w1 j = fv j)) ?_ ((0, (fun _ => 0), (fun _ => 0), (fun _ => 0))) _ _ _ ⟨hP, hD, hS, lv_sub hl [4, 5, 6, 7, 3, 2, 1, 0] rfl, Nat.zero_le _, fun j h => absurd h (Nat.not_lt_zero j)⟩
    rintro ⟨i, c1, d1, w1⟩ H locs ls ⟨hP, hD, hS, hl, hi, h1⟩ ih
    have hP : va_P D vwCl [(o, .inr (2, [.ref a0, .ref b0, .ref v0, .int (nI n)])), (a0, .inl (cI, cap, .inl fa)), (b0, .inl (cI, cap, .inl fb)), (v0, .inl (cJ, cap, .inr (.inl fv))), (q_1, .inl (cI, (2 * n), .inl c1)), (q_2, .inl (cI, (2 * n), .inl d1)), (q_3, .inl (cJ, (2 * n), .inr (.inl w1)))] H := hP
    have hl : lv_has ls 9 [(0, .ref o), (1, .int x), (2, .int y), (3, .long z), (5, .ref q_1), (6, .ref q_2), (7, .ref q_3), (8, .int (nI i))] := hl
    refine lv_iload hx hb dX2_add_45 (lv_at hl 7 rfl) ?_
    refine lv_aload_n hx hb dX2_add_47 rfl (lv_at hl 0 rfl) ?_
    refine va_get (D := D) (ci := 2) (v := .int (nI n)) (C := RX2) (T := TX2) (N := 4) hx hb hts lk1 hown hK hP 0 rfl rfl 3 (by decide) lk0 (fun _ h9 => h9) rfl dX2_add_48 ?_
    refine z_icmp_ge (tgt := 96) hx hb dX2_add_51 (by decide) (by omega) (by omega) (fun c_51 => ?_) (fun c_51 => ?_)
    · refine lv_aload_n hx hb dX2_add_96 rfl (lv_at hl 0 rfl) ?_
      refine lv_aload hx hb dX2_add_97 (lv_at hl 4 rfl) ?_
      refine va_put (D := D) (ci := 2) (v := .ref q_1) (ty := .array .int) (C := RX2) (T := TX2) (N := 4) hx hb hts lk1 tyX2 tyX2_ok nmX2 hown hK hP hD hS 0 rfl rfl 0 (by decide) lk2 (fun _ h9 => h9) rfl (by decide +kernel) rfl rfl (Nat.le_of_ble_eq_true rfl) dX2_add_99 (fun H locs hP hD hS => ?_)
      have hP : va_P D vwCl [(o, .inr (2, [.ref q_1, .ref b0, .ref v0, .int (nI n)])), (a0, .inl (cI, cap, .inl fa)), (b0, .inl (cI, cap, .inl fb)), (v0, .inl (cJ, cap, .inr (.inl fv))), (q_1, .inl (cI, (2 * n), .inl c1)), (q_2, .inl (cI, (2 * n), .inl d1)), (q_3, .inl (cJ, (2 * n), .inr (.inl w1)))] H := hP
      have hD : va_D A [(o, .inr (2, [.ref q_1, .ref b0, .ref v0, .int (nI n)])), (a0, .inl (cI, cap, .inl fa)), (b0, .inl (cI, cap, .inl fb)), (v0, .inl (cJ, cap, .inr (.inl fv))), (q_1, .inl (cI, (2 * n), .inl c1)), (q_2, .inl (cI, (2 * n), .inl d1)), (q_3, .inl (cJ, (2 * n), .inr (.inl w1)))] := hD
      refine lv_aload_n hx hb dX2_add_102 rfl (lv_at hl 0 rfl) ?_
      refine lv_aload hx hb dX2_add_103 (lv_at hl 5 rfl) ?_
      refine va_put (D := D) (ci := 2) (v := .ref q_2) (ty := .array .int) (C := RX2) (T := TX2) (N := 4) hx hb hts lk1 tyX2 tyX2_ok nmX2 hown hK hP hD hS 0 rfl rfl 1 (by decide) lk3 (fun _ h9 => h9) rfl (by decide +kernel) rfl rfl (Nat.le_of_ble_eq_true rfl) dX2_add_105 (fun H locs hP hD hS => ?_)
      have hP : va_P D vwCl [(o, .inr (2, [.ref q_1, .ref q_2, .ref v0, .int (nI n)])), (a0, .inl (cI, cap, .inl fa)), (b0, .inl (cI, cap, .inl fb)), (v0, .inl (cJ, cap, .inr (.inl fv))), (q_1, .inl (cI, (2 * n), .inl c1)), (q_2, .inl (cI, (2 * n), .inl d1)), (q_3, .inl (cJ, (2 * n), .inr (.inl w1)))] H := hP
      have hD : va_D A [(o, .inr (2, [.ref q_1, .ref q_2, .ref v0, .int (nI n)])), (a0, .inl (cI, cap, .inl fa)), (b0, .inl (cI, cap, .inl fb)), (v0, .inl (cJ, cap, .inr (.inl fv))), (q_1, .inl (cI, (2 * n), .inl c1)), (q_2, .inl (cI, (2 * n), .inl d1)), (q_3, .inl (cJ, (2 * n), .inr (.inl w1)))] := hD
      refine lv_aload_n hx hb dX2_add_108 rfl (lv_at hl 0 rfl) ?_
      refine lv_aload hx hb dX2_add_109 (lv_at hl 6 rfl) ?_
      refine va_put (D := D) (ci := 2) (v := .ref q_3) (ty := .array .long) (C := RX2) (T := TX2) (N := 4) hx hb hts lk1 tyX2 tyX2_ok nmX2 hown hK hP hD hS 0 rfl rfl 2 (by decide) lk4 (fun _ h9 => h9) rfl (by decide +kernel) rfl rfl (Nat.le_of_ble_eq_true rfl) dX2_add_111 (fun H locs hP hD hS => ?_)
      have hP : va_P D vwCl [(o, .inr (2, [.ref q_1, .ref q_2, .ref q_3, .int (nI n)])), (a0, .inl (cI, cap, .inl fa)), (b0, .inl (cI, cap, .inl fb)), (v0, .inl (cJ, cap, .inr (.inl fv))), (q_1, .inl (cI, (2 * n), .inl c1)), (q_2, .inl (cI, (2 * n), .inl d1)), (q_3, .inl (cJ, (2 * n), .inr (.inl w1)))] H := hP
      have hD : va_D A [(o, .inr (2, [.ref q_1, .ref q_2, .ref q_3, .int (nI n)])), (a0, .inl (cI, cap, .inl fa)), (b0, .inl (cI, cap, .inl fb)), (v0, .inl (cJ, cap, .inr (.inl fv))), (q_1, .inl (cI, (2 * n), .inl c1)), (q_2, .inl (cI, (2 * n), .inl d1)), (q_3, .inl (cJ, (2 * n), .inr (.inl w1)))] := hD
      refine lv_aload_n hx hb dX2_add_114 rfl (lv_at hl 0 rfl) ?_
      refine va_get (D := D) (ci := 2) (v := .ref q_1) (C := RX2) (T := TX2) (N := 4) hx hb hts lk1 hown hK hP 0 rfl rfl 0 (by decide) lk2 (fun _ h9 => h9) rfl dX2_add_115 ?_
      refine lv_aload_n hx hb dX2_add_118 rfl (lv_at hl 0 rfl) ?_
      refine va_get (D := D) (ci := 2) (v := .int (nI n)) (C := RX2) (T := TX2) (N := 4) hx hb hts lk1 hown hK hP 0 rfl rfl 3 (by decide) lk0 (fun _ h9 => h9) rfl dX2_add_119 ?_
      refine lv_iload_n hx hb dX2_add_122 rfl (lv_at hl 1 rfl) ?_
      refine z_iast hx hb hK hP hD hS 4 rfl (j := n) (by omega) (by omega) dX2_add_123 (fun H locs hP hD hS => ?_)
      have hP : va_P D vwCl [(o, .inr (2, [.ref q_1, .ref q_2, .ref q_3, .int (nI n)])), (a0, .inl (cI, cap, .inl fa)), (b0, .inl (cI, cap, .inl fb)), (v0, .inl (cJ, cap, .inr (.inl fv))), (q_1, .inl (cI, (2 * n), .inl (upd c1 n x))), (q_2, .inl (cI, (2 * n), .inl d1)), (q_3, .inl (cJ, (2 * n), .inr (.inl w1)))] H := hP
      have hD : va_D A [(o, .inr (2, [.ref q_1, .ref q_2, .ref q_3, .int (nI n)])), (a0, .inl (cI, cap, .inl fa)), (b0, .inl (cI, cap, .inl fb)), (v0, .inl (cJ, cap, .inr (.inl fv))), (q_1, .inl (cI, (2 * n), .inl (upd c1 n x))), (q_2, .inl (cI, (2 * n), .inl d1)), (q_3, .inl (cJ, (2 * n), .inr (.inl w1)))] := hD
      refine lv_aload_n hx hb dX2_add_124 rfl (lv_at hl 0 rfl) ?_
      refine va_get (D := D) (ci := 2) (v := .ref q_2) (C := RX2) (T := TX2) (N := 4) hx hb hts lk1 hown hK hP 0 rfl rfl 1 (by decide) lk3 (fun _ h9 => h9) rfl dX2_add_125 ?_
      refine lv_aload_n hx hb dX2_add_128 rfl (lv_at hl 0 rfl) ?_
      refine va_get (D := D) (ci := 2) (v := .int (nI n)) (C := RX2) (T := TX2) (N := 4) hx hb hts lk1 hown hK hP 0 rfl rfl 3 (by decide) lk0 (fun _ h9 => h9) rfl dX2_add_129 ?_
      refine lv_iload_n hx hb dX2_add_132 rfl (lv_at hl 2 rfl) ?_
      refine z_iast hx hb hK hP hD hS 5 rfl (j := n) (by omega) (by omega) dX2_add_133 (fun H locs hP hD hS => ?_)
      have hP : va_P D vwCl [(o, .inr (2, [.ref q_1, .ref q_2, .ref q_3, .int (nI n)])), (a0, .inl (cI, cap, .inl fa)), (b0, .inl (cI, cap, .inl fb)), (v0, .inl (cJ, cap, .inr (.inl fv))), (q_1, .inl (cI, (2 * n), .inl (upd c1 n x))), (q_2, .inl (cI, (2 * n), .inl (upd d1 n y))), (q_3, .inl (cJ, (2 * n), .inr (.inl w1)))] H := hP
      have hD : va_D A [(o, .inr (2, [.ref q_1, .ref q_2, .ref q_3, .int (nI n)])), (a0, .inl (cI, cap, .inl fa)), (b0, .inl (cI, cap, .inl fb)), (v0, .inl (cJ, cap, .inr (.inl fv))), (q_1, .inl (cI, (2 * n), .inl (upd c1 n x))), (q_2, .inl (cI, (2 * n), .inl (upd d1 n y))), (q_3, .inl (cJ, (2 * n), .inr (.inl w1)))] := hD
      refine lv_aload_n hx hb dX2_add_134 rfl (lv_at hl 0 rfl) ?_
      refine va_get (D := D) (ci := 2) (v := .ref q_3) (C := RX2) (T := TX2) (N := 4) hx hb hts lk1 hown hK hP 0 rfl rfl 2 (by decide) lk4 (fun _ h9 => h9) rfl dX2_add_135 ?_
      refine lv_aload_n hx hb dX2_add_138 rfl (lv_at hl 0 rfl) ?_
      refine lv_dup hx hb dX2_add_139 rfl ?_
      refine va_get (D := D) (ci := 2) (v := .int (nI n)) (C := RX2) (T := TX2) (N := 4) hx hb hts lk1 hown hK hP 0 rfl rfl 3 (by decide) lk0 (fun _ h9 => h9) rfl dX2_add_140 ?_
      refine lv_dup_x1 hx hb dX2_add_143 rfl rfl ?_
      refine lv_iconst (v := nI 1) hx hb dX2_add_144 (by decide) ?_
      refine z_iadd hx hb dX2_add_145 ?_
      refine va_put (D := D) (ci := 2) (v := .int (nI (n + 1))) (ty := .int) (C := RX2) (T := TX2) (N := 4) hx hb hts lk1 tyX2 tyX2_ok nmX2 hown hK hP hD hS 0 rfl rfl 3 (by decide) lk0 (fun _ h9 => h9) rfl (by decide +kernel) rfl rfl (Nat.le_of_ble_eq_true rfl) dX2_add_146 (fun H locs hP hD hS => ?_)
      have hP : va_P D vwCl [(o, .inr (2, [.ref q_1, .ref q_2, .ref q_3, .int (nI (n + 1))])), (a0, .inl (cI, cap, .inl fa)), (b0, .inl (cI, cap, .inl fb)), (v0, .inl (cJ, cap, .inr (.inl fv))), (q_1, .inl (cI, (2 * n), .inl (upd c1 n x))), (q_2, .inl (cI, (2 * n), .inl (upd d1 n y))), (q_3, .inl (cJ, (2 * n), .inr (.inl w1)))] H := hP
      have hD : va_D A [(o, .inr (2, [.ref q_1, .ref q_2, .ref q_3, .int (nI (n + 1))])), (a0, .inl (cI, cap, .inl fa)), (b0, .inl (cI, cap, .inl fb)), (v0, .inl (cJ, cap, .inr (.inl fv))), (q_1, .inl (cI, (2 * n), .inl (upd c1 n x))), (q_2, .inl (cI, (2 * n), .inl (upd d1 n y))), (q_3, .inl (cJ, (2 * n), .inr (.inl w1)))] := hD
      refine lv_lload_n hx hb dX2_add_149 rfl (lv_at hl 3 rfl) ?_
      refine z_last hx hb hK hP hD hS 6 rfl (j := n) (by omega) (by omega) dX2_add_150 (fun H locs hP hD hS => ?_)
      have hP : va_P D vwCl [(o, .inr (2, [.ref q_1, .ref q_2, .ref q_3, .int (nI (n + 1))])), (a0, .inl (cI, cap, .inl fa)), (b0, .inl (cI, cap, .inl fb)), (v0, .inl (cJ, cap, .inr (.inl fv))), (q_1, .inl (cI, (2 * n), .inl (upd c1 n x))), (q_2, .inl (cI, (2 * n), .inl (upd d1 n y))), (q_3, .inl (cJ, (2 * n), .inr (.inl (vp_updL w1 n z))))] H := hP
      have hD : va_D A [(o, .inr (2, [.ref q_1, .ref q_2, .ref q_3, .int (nI (n + 1))])), (a0, .inl (cI, cap, .inl fa)), (b0, .inl (cI, cap, .inl fb)), (v0, .inl (cJ, cap, .inr (.inl fv))), (q_1, .inl (cI, (2 * n), .inl (upd c1 n x))), (q_2, .inl (cI, (2 * n), .inl (upd d1 n y))), (q_3, .inl (cJ, (2 * n), .inr (.inl (vp_updL w1 n z))))] := hD
      refine W.widen (k := mc) (n := ms) (by omega) (by omega) ?_
      exact W.vret hx hb hr (fun t ht hW => ⟨⟨(q_1, q_2, q_3, (2 * n), upd c1 n x, upd d1 n y, vp_updL w1 n z), rfl, ⟨rl_add (fun j hj => h1 j (by omega)), by omega, by omega, Or.inr ⟨c_9, rfl⟩, by rw [if_pos c_9]; omega⟩, by rw [ht]; exact (hP.sub [0, 4, 5, 6] rfl), va_K.moved hW.alike hK, (hD.sub [0, 4, 5, 6] (by decide) rfl)⟩, hS.F ht⟩) hS.2.2 dX2_add_151
    · refine lv_aload hx hb dX2_add_54 (lv_at hl 4 rfl) ?_
      refine lv_iload hx hb dX2_add_56 (lv_at hl 7 rfl) ?_
      refine lv_aload_n hx hb dX2_add_58 rfl (lv_at hl 0 rfl) ?_
      refine va_get (D := D) (ci := 2) (v := .ref a0) (C := RX2) (T := TX2) (N := 4) hx hb hts lk1 hown hK hP 0 rfl rfl 0 (by decide) lk2 (fun _ h9 => h9) rfl dX2_add_59 ?_
      refine lv_iload hx hb dX2_add_62 (lv_at hl 7 rfl) ?_
      refine z_iald hx hb hK hP 1 rfl (j := i) (by omega) (by omega) dX2_add_64 ?_
      refine z_iast hx hb hK hP hD hS 4 rfl (j := i) (by omega) (by omega) dX2_add_65 (fun H locs hP hD hS => ?_)
      have hP : va_P D vwCl [(o, .inr (2, [.ref a0, .ref b0, .ref v0, .int (nI n)])), (a0, .inl (cI, cap, .inl fa)), (b0, .inl (cI, cap, .inl fb)), (v0, .inl (cJ, cap, .inr (.inl fv))), (q_1, .inl (cI, (2 * n), .inl (upd c1 i (fa i)))), (q_2, .inl (cI, (2 * n), .inl d1)), (q_3, .inl (cJ, (2 * n), .inr (.inl w1)))] H := hP
      have hD : va_D A [(o, .inr (2, [.ref a0, .ref b0, .ref v0, .int (nI n)])), (a0, .inl (cI, cap, .inl fa)), (b0, .inl (cI, cap, .inl fb)), (v0, .inl (cJ, cap, .inr (.inl fv))), (q_1, .inl (cI, (2 * n), .inl (upd c1 i (fa i)))), (q_2, .inl (cI, (2 * n), .inl d1)), (q_3, .inl (cJ, (2 * n), .inr (.inl w1)))] := hD
      refine lv_aload hx hb dX2_add_66 (lv_at hl 5 rfl) ?_
      refine lv_iload hx hb dX2_add_68 (lv_at hl 7 rfl) ?_
      refine lv_aload_n hx hb dX2_add_70 rfl (lv_at hl 0 rfl) ?_
      refine va_get (D := D) (ci := 2) (v := .ref b0) (C := RX2) (T := TX2) (N := 4) hx hb hts lk1 hown hK hP 0 rfl rfl 1 (by decide) lk3 (fun _ h9 => h9) rfl dX2_add_71 ?_
      refine lv_iload hx hb dX2_add_74 (lv_at hl 7 rfl) ?_
      refine z_iald hx hb hK hP 2 rfl (j := i) (by omega) (by omega) dX2_add_76 ?_
      refine z_iast hx hb hK hP hD hS 5 rfl (j := i) (by omega) (by omega) dX2_add_77 (fun H locs hP hD hS => ?_)
      have hP : va_P D vwCl [(o, .inr (2, [.ref a0, .ref b0, .ref v0, .int (nI n)])), (a0, .inl (cI, cap, .inl fa)), (b0, .inl (cI, cap, .inl fb)), (v0, .inl (cJ, cap, .inr (.inl fv))), (q_1, .inl (cI, (2 * n), .inl (upd c1 i (fa i)))), (q_2, .inl (cI, (2 * n), .inl (upd d1 i (fb i)))), (q_3, .inl (cJ, (2 * n), .inr (.inl w1)))] H := hP
      have hD : va_D A [(o, .inr (2, [.ref a0, .ref b0, .ref v0, .int (nI n)])), (a0, .inl (cI, cap, .inl fa)), (b0, .inl (cI, cap, .inl fb)), (v0, .inl (cJ, cap, .inr (.inl fv))), (q_1, .inl (cI, (2 * n), .inl (upd c1 i (fa i)))), (q_2, .inl (cI, (2 * n), .inl (upd d1 i (fb i)))), (q_3, .inl (cJ, (2 * n), .inr (.inl w1)))] := hD
      refine lv_aload hx hb dX2_add_78 (lv_at hl 6 rfl) ?_
      refine lv_iload hx hb dX2_add_80 (lv_at hl 7 rfl) ?_
      refine lv_aload_n hx hb dX2_add_82 rfl (lv_at hl 0 rfl) ?_
      refine va_get (D := D) (ci := 2) (v := .ref v0) (C := RX2) (T := TX2) (N := 4) hx hb hts lk1 hown hK hP 0 rfl rfl 2 (by decide) lk4 (fun _ h9 => h9) rfl dX2_add_83 ?_
      refine lv_iload hx hb dX2_add_86 (lv_at hl 7 rfl) ?_
      refine z_lald hx hb hK hP 3 rfl (j := i) (by omega) (by omega) dX2_add_88 ?_
      refine z_last hx hb hK hP hD hS 6 rfl (j := i) (by omega) (by omega) dX2_add_89 (fun H locs hP hD hS => ?_)
      have hP : va_P D vwCl [(o, .inr (2, [.ref a0, .ref b0, .ref v0, .int (nI n)])), (a0, .inl (cI, cap, .inl fa)), (b0, .inl (cI, cap, .inl fb)), (v0, .inl (cJ, cap, .inr (.inl fv))), (q_1, .inl (cI, (2 * n), .inl (upd c1 i (fa i)))), (q_2, .inl (cI, (2 * n), .inl (upd d1 i (fb i)))), (q_3, .inl (cJ, (2 * n), .inr (.inl (vp_updL w1 i (fv i)))))] H := hP
      have hD : va_D A [(o, .inr (2, [.ref a0, .ref b0, .ref v0, .int (nI n)])), (a0, .inl (cI, cap, .inl fa)), (b0, .inl (cI, cap, .inl fb)), (v0, .inl (cJ, cap, .inr (.inl fv))), (q_1, .inl (cI, (2 * n), .inl (upd c1 i (fa i)))), (q_2, .inl (cI, (2 * n), .inl (upd d1 i (fb i)))), (q_3, .inl (cJ, (2 * n), .inr (.inl (vp_updL w1 i (fv i)))))] := hD
      refine lv_iinc (v := nI (i + 1)) (lv' := [(8, .int (nI (i + 1))), (0, .ref o), (1, .int x), (2, .int y), (3, .long z), (5, .ref q_1), (6, .ref q_2), (7, .ref q_3)]) hx hb dX2_add_90 hl (k := 7) rfl (nI_add i 1) (by decide) rfl (fun ls hl => ?_)
      refine lv_goto (tgt := 45) hx hb dX2_add_93 (by decide) ?_
      exact ih ((i + 1, upd c1 i (fa i), upd d1 i (fb i), vp_updL w1 i (fv i))) _ _ _ ⟨hP, hD, hS, lv_sub hl [1, 2, 3, 4, 5, 6, 7, 0] rfl, by omega, cp_s h1⟩ (by first | omega | (dsimp only; omega))

set_option maxHeartbeats 4000000 in
set_option maxRecDepth 100000 in
theorem c_X2_remove (l : Launch) (D : va_G) (cI cJ : ClassId) (o a0 b0 v0 cap n : Nat) (fa fb : Nat → Int32) (fv : Nat → Int64) (k : Nat) (hn : n ≤ cap) (hc : cap ≤ 1100) (hk : k < n) (sz : Nat) : Met l yX2_remove wsX2_remove { frames := 0, cells := 0, slots := 0, locals := 0 } (va_Pc [.ref o, .int (nI k)] (wP D cI cJ [(o, .inr (2, [.ref a0, .ref b0, .ref v0, .int (nI n)])), (a0, .inl (cI, cap, .inl fa)), (b0, .inl (cI, cap, .inl fb)), (v0, .inl (cJ, cap, .inr (.inl fv)))] sz)) (va_Qv (fun (u : Unit) => True) (wB D cI cJ (va_A [(o, .inr (2, [.ref a0, .ref b0, .ref v0, .int (nI n)])), (a0, .inl (cI, cap, .inl fa)), (b0, .inl (cI, cap, .inl fb)), (v0, .inl (cJ, cap, .inr (.inl fv)))] sz) (fun _ => [(o, .inr (2, [.ref a0, .ref b0, .ref v0, .int (nI (n - 1))])), (a0, .inl (cI, cap, .inl (shf fa k (n - 1)))), (b0, .inl (cI, cap, .inl (shf fb k (n - 1)))), (v0, .inl (cJ, cap, .inr (.inl (shf fv k (n - 1)))))])) (va_A [(o, .inr (2, [.ref a0, .ref b0, .ref v0, .int (nI n)])), (a0, .inl (cI, cap, .inl fa)), (b0, .inl (cI, cap, .inl fb)), (v0, .inl (cJ, cap, .inr (.inl fv)))] sz)) 0 0 (va_A [(o, .inr (2, [.ref a0, .ref b0, .ref v0, .int (nI n)])), (a0, .inl (cI, cap, .inl fa)), (b0, .inl (cI, cap, .inl fb)), (v0, .inl (cJ, cap, .inr (.inl fv)))] sz) := by
  refine Met.ofW (cc := cX2_remove) (maxL := 3) (ret := none) (by decide) rfl ?_
  intro p e s m args below meth c s₁ B hml hv
  obtain ⟨rfl, hsz, hP, hK, hD0⟩ := hv
  have hx := B.exec
  have hb := B.bytes
  have hr := B.returns
  have hts := atoms_spec (ws := wsX2_remove) B.pre
  have hown : s.vm.findClass RX2 = some m.cls := findClass_of_methodNamed B.named
  have hlocks := B.notSynchronized
  have lk0 := hts (.fieldLink RX2 20 "KeyHallModel$Rows" "many" "I") (by decide +kernel)
  have lk1 : ∀ w ∈ wsX20, w ∈ wsX2_remove := by decide +kernel
  have lk2 := hts (.fieldLink RX2 7 "KeyHallModel$Rows" "a" "[I") (by decide +kernel)
  have lk3 := hts (.fieldLink RX2 13 "KeyHallModel$Rows" "b" "[I") (by decide +kernel)
  have lk4 := hts (.fieldLink RX2 16 "KeyHallModel$Rows" "v" "[J") (by decide +kernel)
  subst hsz
  have hD := hD0.self (sz := s.heap.size)
  generalize hAe : va_A [(o, .inr (2, [.ref a0, .ref b0, .ref v0, .int (nI n)])), (a0, .inl (cI, cap, .inl fa)), (b0, .inl (cI, cap, .inl fb)), (v0, .inl (cJ, cap, .inr (.inl fv)))] s.heap.size = A at hD ⊢
  have hA : ∀ q : Nat, s.heap.size ≤ q → A q := fun q h => by rw [← hAe]; exact Or.inr h
  have hS : va_S A s.heap s.heap [] := va_S.rf
  have hP : va_P D vwCl [(o, .inr (2, [.ref a0, .ref b0, .ref v0, .int (nI n)])), (a0, .inl (cI, cap, .inl fa)), (b0, .inl (cI, cap, .inl fb)), (v0, .inl (cJ, cap, .inr (.inl fv)))] s.heap := hP
  have hl := lv_entry ([.ref o, .int (nI k)]) (n := 3) (Nat.le_of_ble_eq_true rfl)
  rw [lg_entry_eq]
  generalize (lg_sl ([.ref o, .int (nI k)]) ++ List.replicate (3 - (lg_sl ([.ref o, .int (nI k)])).length) Slot.unset).toArray = ls at hl ⊢
  have hl : lv_has ls 3 [(0, .ref o), (1, .int (nI k))] := hl
  refine lv_aload_n hx hb dX2_remove_0 rfl (lv_at hl 0 rfl) ?_
  refine lv_dup hx hb dX2_remove_1 rfl ?_
  refine va_get (D := D) (ci := 2) (v := .int (nI n)) (C := RX2) (T := TX2) (N := 4) hx hb hts lk1 hown hK hP 0 rfl rfl 3 (by decide) lk0 (fun _ h9 => h9) rfl dX2_remove_2 ?_
  refine lv_iconst (v := nI 1) hx hb dX2_remove_5 (by decide) ?_
  refine z_isub hx hb dX2_remove_6 (by omega) ?_
  refine va_put (D := D) (ci := 2) (v := .int (nI (n - 1))) (ty := .int) (C := RX2) (T := TX2) (N := 4) hx hb hts lk1 tyX2 tyX2_ok nmX2 hown hK hP hD hS 0 rfl rfl 3 (by decide) lk0 (fun _ h9 => h9) rfl (by decide +kernel) rfl rfl (Nat.le_of_ble_eq_true rfl) dX2_remove_7 (fun H locs hP hD hS => ?_)
  have hP : va_P D vwCl [(o, .inr (2, [.ref a0, .ref b0, .ref v0, .int (nI (n - 1))])), (a0, .inl (cI, cap, .inl fa)), (b0, .inl (cI, cap, .inl fb)), (v0, .inl (cJ, cap, .inr (.inl fv)))] H := hP
  have hD : va_D A [(o, .inr (2, [.ref a0, .ref b0, .ref v0, .int (nI (n - 1))])), (a0, .inl (cI, cap, .inl fa)), (b0, .inl (cI, cap, .inl fb)), (v0, .inl (cJ, cap, .inr (.inl fv)))] := hD
  refine lv_iload_n hx hb dX2_remove_10 rfl (lv_at hl 1 rfl) ?_
  refine lv_istore_n (lv' := [(2, .int (nI k)), (0, .ref o), (1, .int (nI k))]) hx hb dX2_remove_11 rfl hl (by decide) rfl (fun ls hl => ?_)
  have hP : va_P D vwCl [(o, .inr (2, [.ref a0, .ref b0, .ref v0, .int (nI (n - 1))])), (a0, .inl (cI, cap, .inl (shf fa k k))), (b0, .inl (cI, cap, .inl (shf fb k k))), (v0, .inl (cJ, cap, .inr (.inl (shf fv k k))))] H := by rw [shf_0, shf_0, shf_0]; exact hP
  have hD : va_D A [(o, .inr (2, [.ref a0, .ref b0, .ref v0, .int (nI (n - 1))])), (a0, .inl (cI, cap, .inl (shf fa k k))), (b0, .inl (cI, cap, .inl (shf fb k k))), (v0, .inl (cJ, cap, .inr (.inl (shf fv k k))))] := by rw [shf_0, shf_0, shf_0]; exact hD
  refine z_loopw (σ := Nat) (fun i => n - i) (fun i H locs ls => va_P D vwCl [(o, .inr (2, [.ref a0, .ref b0, .ref v0, .int (nI (n - 1))])), (a0, .inl (cI, cap, .inl (shf fa k i))), (b0, .inl (cI, cap, .inl (shf fb k i))), (v0, .inl (cJ, cap, .inr (.inl (shf fv k i))))] H ∧ va_D A [(o, .inr (2, [.ref a0, .ref b0, .ref v0, .int (nI (n - 1))])), (a0, .inl (cI, cap, .inl (shf fa k i))), (b0, .inl (cI, cap, .inl (shf fb k i))), (v0, .inl (cJ, cap, .inr (.inl (shf fv k i))))] ∧ va_S A s.heap H locs ∧ lv_has ls 3 [(0, .ref o), (2, .int (nI i))] ∧ (i ≤ n - 1) ∧ (k ≤ i)) ?_ (k) _ _ _ ⟨hP, hD, hS, lv_sub hl [1, 0] rfl, by omega, Nat.le_refl _⟩
  rintro i H locs ls ⟨hP, hD, hS, hl, hi, hki⟩ ih
  have hP : va_P D vwCl [(o, .inr (2, [.ref a0, .ref b0, .ref v0, .int (nI (n - 1))])), (a0, .inl (cI, cap, .inl (shf fa k i))), (b0, .inl (cI, cap, .inl (shf fb k i))), (v0, .inl (cJ, cap, .inr (.inl (shf fv k i))))] H := hP
  have hl : lv_has ls 3 [(0, .ref o), (2, .int (nI i))] := hl
  refine lv_iload_n hx hb dX2_remove_12 rfl (lv_at hl 1 rfl) ?_
  refine lv_aload_n hx hb dX2_remove_13 rfl (lv_at hl 0 rfl) ?_
  refine va_get (D := D) (ci := 2) (v := .int (nI (n - 1))) (C := RX2) (T := TX2) (N := 4) hx hb hts lk1 hown hK hP 0 rfl rfl 3 (by decide) lk0 (fun _ h9 => h9) rfl dX2_remove_14 ?_
  refine z_icmp_ge (tgt := 68) hx hb dX2_remove_17 (by decide) (by omega) (by omega) (fun c_17 => ?_) (fun c_17 => ?_)
  · have hin : i = n - 1 := Nat.le_antisymm hi c_17
    rw [hin] at hP hD
    exact W.vret hx hb hr (fun t ht hW => ⟨⟨(), rfl, trivial, by rw [ht]; exact hP, va_K.moved hW.alike hK, hD⟩, hS.F ht⟩) hS.2.2 dX2_remove_68
  · refine lv_aload_n hx hb dX2_remove_20 rfl (lv_at hl 0 rfl) ?_
    refine va_get (D := D) (ci := 2) (v := .ref a0) (C := RX2) (T := TX2) (N := 4) hx hb hts lk1 hown hK hP 0 rfl rfl 0 (by decide) lk2 (fun _ h9 => h9) rfl dX2_remove_21 ?_
    refine lv_iload_n hx hb dX2_remove_24 rfl (lv_at hl 1 rfl) ?_
    refine lv_aload_n hx hb dX2_remove_25 rfl (lv_at hl 0 rfl) ?_
    refine va_get (D := D) (ci := 2) (v := .ref a0) (C := RX2) (T := TX2) (N := 4) hx hb hts lk1 hown hK hP 0 rfl rfl 0 (by decide) lk2 (fun _ h9 => h9) rfl dX2_remove_26 ?_
    refine lv_iload_n hx hb dX2_remove_29 rfl (lv_at hl 1 rfl) ?_
    refine lv_iconst (v := nI 1) hx hb dX2_remove_30 (by decide) ?_
    refine z_iadd hx hb dX2_remove_31 ?_
    refine z_iald hx hb hK hP 1 rfl (j := i + 1) (by omega) (by omega) dX2_remove_32 ?_
    refine z_iast hx hb hK hP hD hS 1 rfl (j := i) (by omega) (by omega) dX2_remove_33 (fun H locs hP hD hS => ?_)
    have hP : va_P D vwCl [(o, .inr (2, [.ref a0, .ref b0, .ref v0, .int (nI (n - 1))])), (a0, .inl (cI, cap, .inl (upd (shf fa k i) i ((shf fa k i) (i + 1))))), (b0, .inl (cI, cap, .inl (shf fb k i))), (v0, .inl (cJ, cap, .inr (.inl (shf fv k i))))] H := hP
    have hD : va_D A [(o, .inr (2, [.ref a0, .ref b0, .ref v0, .int (nI (n - 1))])), (a0, .inl (cI, cap, .inl (upd (shf fa k i) i ((shf fa k i) (i + 1))))), (b0, .inl (cI, cap, .inl (shf fb k i))), (v0, .inl (cJ, cap, .inr (.inl (shf fv k i))))] := hD
    refine lv_aload_n hx hb dX2_remove_34 rfl (lv_at hl 0 rfl) ?_
    refine va_get (D := D) (ci := 2) (v := .ref b0) (C := RX2) (T := TX2) (N := 4) hx hb hts lk1 hown hK hP 0 rfl rfl 1 (by decide) lk3 (fun _ h9 => h9) rfl dX2_remove_35 ?_
    refine lv_iload_n hx hb dX2_remove_38 rfl (lv_at hl 1 rfl) ?_
    refine lv_aload_n hx hb dX2_remove_39 rfl (lv_at hl 0 rfl) ?_
    refine va_get (D := D) (ci := 2) (v := .ref b0) (C := RX2) (T := TX2) (N := 4) hx hb hts lk1 hown hK hP 0 rfl rfl 1 (by decide) lk3 (fun _ h9 => h9) rfl dX2_remove_40 ?_
    refine lv_iload_n hx hb dX2_remove_43 rfl (lv_at hl 1 rfl) ?_
    refine lv_iconst (v := nI 1) hx hb dX2_remove_44 (by decide) ?_
    refine z_iadd hx hb dX2_remove_45 ?_
    refine z_iald hx hb hK hP 2 rfl (j := i + 1) (by omega) (by omega) dX2_remove_46 ?_
    refine z_iast hx hb hK hP hD hS 2 rfl (j := i) (by omega) (by omega) dX2_remove_47 (fun H locs hP hD hS => ?_)
    have hP : va_P D vwCl [(o, .inr (2, [.ref a0, .ref b0, .ref v0, .int (nI (n - 1))])), (a0, .inl (cI, cap, .inl (upd (shf fa k i) i ((shf fa k i) (i + 1))))), (b0, .inl (cI, cap, .inl (upd (shf fb k i) i ((shf fb k i) (i + 1))))), (v0, .inl (cJ, cap, .inr (.inl (shf fv k i))))] H := hP
    have hD : va_D A [(o, .inr (2, [.ref a0, .ref b0, .ref v0, .int (nI (n - 1))])), (a0, .inl (cI, cap, .inl (upd (shf fa k i) i ((shf fa k i) (i + 1))))), (b0, .inl (cI, cap, .inl (upd (shf fb k i) i ((shf fb k i) (i + 1))))), (v0, .inl (cJ, cap, .inr (.inl (shf fv k i))))] := hD
    refine lv_aload_n hx hb dX2_remove_48 rfl (lv_at hl 0 rfl) ?_
    refine va_get (D := D) (ci := 2) (v := .ref v0) (C := RX2) (T := TX2) (N := 4) hx hb hts lk1 hown hK hP 0 rfl rfl 2 (by decide) lk4 (fun _ h9 => h9) rfl dX2_remove_49 ?_
    refine lv_iload_n hx hb dX2_remove_52 rfl (lv_at hl 1 rfl) ?_
    refine lv_aload_n hx hb dX2_remove_53 rfl (lv_at hl 0 rfl) ?_
    refine va_get (D := D) (ci := 2) (v := .ref v0) (C := RX2) (T := TX2) (N := 4) hx hb hts lk1 hown hK hP 0 rfl rfl 2 (by decide) lk4 (fun _ h9 => h9) rfl dX2_remove_54 ?_
    refine lv_iload_n hx hb dX2_remove_57 rfl (lv_at hl 1 rfl) ?_
    refine lv_iconst (v := nI 1) hx hb dX2_remove_58 (by decide) ?_
    refine z_iadd hx hb dX2_remove_59 ?_
    refine z_lald hx hb hK hP 3 rfl (j := i + 1) (by omega) (by omega) dX2_remove_60 ?_
    refine z_last hx hb hK hP hD hS 3 rfl (j := i) (by omega) (by omega) dX2_remove_61 (fun H locs hP hD hS => ?_)
    have hP : va_P D vwCl [(o, .inr (2, [.ref a0, .ref b0, .ref v0, .int (nI (n - 1))])), (a0, .inl (cI, cap, .inl (upd (shf fa k i) i ((shf fa k i) (i + 1))))), (b0, .inl (cI, cap, .inl (upd (shf fb k i) i ((shf fb k i) (i + 1))))), (v0, .inl (cJ, cap, .inr (.inl (vp_updL (shf fv k i) i ((shf fv k i) (i + 1))))))] H := hP
    have hD : va_D A [(o, .inr (2, [.ref a0, .ref b0, .ref v0, .int (nI (n - 1))])), (a0, .inl (cI, cap, .inl (upd (shf fa k i) i ((shf fa k i) (i + 1))))), (b0, .inl (cI, cap, .inl (upd (shf fb k i) i ((shf fb k i) (i + 1))))), (v0, .inl (cJ, cap, .inr (.inl (vp_updL (shf fv k i) i ((shf fv k i) (i + 1))))))] := hD
    rw [shf_i hki, shf_i hki, shf_l hki] at hP hD
    have hP : va_P D vwCl [(o, .inr (2, [.ref a0, .ref b0, .ref v0, .int (nI (n - 1))])), (a0, .inl (cI, cap, .inl (shf fa k (i + 1)))), (b0, .inl (cI, cap, .inl (shf fb k (i + 1)))), (v0, .inl (cJ, cap, .inr (.inl (shf fv k (i + 1)))))] H := hP
    have hD : va_D A [(o, .inr (2, [.ref a0, .ref b0, .ref v0, .int (nI (n - 1))])), (a0, .inl (cI, cap, .inl (shf fa k (i + 1)))), (b0, .inl (cI, cap, .inl (shf fb k (i + 1)))), (v0, .inl (cJ, cap, .inr (.inl (shf fv k (i + 1)))))] := hD
    refine lv_iinc (v := nI (i + 1)) (lv' := [(2, .int (nI (i + 1))), (0, .ref o)]) hx hb dX2_remove_62 hl (k := 1) rfl (nI_add i 1) (by decide) rfl (fun ls hl => ?_)
    refine lv_goto (tgt := 12) hx hb dX2_remove_65 (by decide) ?_
    exact ih (i + 1) _ _ _ ⟨hP, hD, hS, lv_sub hl [1, 0] rfl, by omega, by omega⟩ (by first | omega | (dsimp only; omega))
