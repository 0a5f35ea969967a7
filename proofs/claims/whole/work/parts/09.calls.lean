def yS_fullestWithRoom : MethodName := ⟨"MeshedSpans", "fullestWithRoom", "(I)LMeshedSpans$Miniheap;"⟩
def wS_fullestWithRoom : List Cond := .code yS_fullestWithRoom prog_1_method_30_code 5 (some (.object "MeshedSpans$Miniheap")) :: gw
theorem kS_fullestWithRoom {R : Room} {s : State} {args : Array Value} {own : String} {ix : Nat} (hts : ∀ w ∈ gw, w.before args s = true) (hl : (Cond.methodLink own ix yS_fullestWithRoom).before args s = true) (hR : 3 + 1 ≤ R.frames ∧ 8 + (5 + 11) + 62 ≤ R.locals) : CallW R s args own "MeshedSpans" ix yS_fullestWithRoom prog_1_method_30_code 5 (some (.object "MeshedSpans$Miniheap")) wS_fullestWithRoom { frames := 3, cells := 0, slots := 0, locals := 62 } 0 0 1 := ⟨callB_of (rm := { frames := 3, cells := 0, slots := 0, locals := 62 }) 1 hts (gw_c (ct := .code yS_fullestWithRoom prog_1_method_30_code 5 (some (.object "MeshedSpans$Miniheap"))) gm_233) rfl rfl rfl (hts _ gm_41) hl (by decide +kernel) hR, hts _ gm_232, hts _ gm_6⟩
theorem dS_fullestWithRoom_0 : decode prog_1_method_30_code 0 = .ok (.aconst_null, 1) := by decide +kernel
theorem dS_fullestWithRoom_1 : decode prog_1_method_30_code 1 = .ok (.astore_n 2, 1) := by decide +kernel
theorem dS_fullestWithRoom_2 : decode prog_1_method_30_code 2 = .ok (.iconst 0, 1) := by decide +kernel
theorem dS_fullestWithRoom_3 : decode prog_1_method_30_code 3 = .ok (.istore_n 3, 1) := by decide +kernel
theorem dS_fullestWithRoom_4 : decode prog_1_method_30_code 4 = .ok (.iload_n 3, 1) := by decide +kernel
theorem dS_fullestWithRoom_5 : decode prog_1_method_30_code 5 = .ok (.bipush 12, 2) := by decide +kernel
theorem dS_fullestWithRoom_7 : decode prog_1_method_30_code 7 = .ok (.if_icmp .ge 50, 3) := by decide +kernel
theorem dS_fullestWithRoom_10 : decode prog_1_method_30_code 10 = .ok (.aload_n 0, 1) := by decide +kernel
theorem dS_fullestWithRoom_11 : decode prog_1_method_30_code 11 = .ok (.getfield 34, 3) := by decide +kernel
theorem dS_fullestWithRoom_14 : decode prog_1_method_30_code 14 = .ok (.iload_n 3, 1) := by decide +kernel
theorem dS_fullestWithRoom_15 : decode prog_1_method_30_code 15 = .ok (.aaload, 1) := by decide +kernel
theorem dS_fullestWithRoom_16 : decode prog_1_method_30_code 16 = .ok (.astore 4, 2) := by decide +kernel
theorem dS_fullestWithRoom_18 : decode prog_1_method_30_code 18 = .ok (.aload 4, 2) := by decide +kernel
theorem dS_fullestWithRoom_20 : decode prog_1_method_30_code 20 = .ok (.iload_n 1, 1) := by decide +kernel
theorem dS_fullestWithRoom_21 : decode prog_1_method_30_code 21 = .ok (.invokevirtual 133, 3) := by decide +kernel
theorem dS_fullestWithRoom_24 : decode prog_1_method_30_code 24 = .ok (.ifCond .eq 27, 3) := by decide +kernel
theorem dS_fullestWithRoom_27 : decode prog_1_method_30_code 27 = .ok (.aload 4, 2) := by decide +kernel
theorem dS_fullestWithRoom_29 : decode prog_1_method_30_code 29 = .ok (.invokevirtual 196, 3) := by decide +kernel
theorem dS_fullestWithRoom_32 : decode prog_1_method_30_code 32 = .ok (.ifCond .ne 19, 3) := by decide +kernel
theorem dS_fullestWithRoom_35 : decode prog_1_method_30_code 35 = .ok (.aload_n 2, 1) := by decide +kernel
theorem dS_fullestWithRoom_36 : decode prog_1_method_30_code 36 = .ok (.ifnull 12, 3) := by decide +kernel
theorem dS_fullestWithRoom_39 : decode prog_1_method_30_code 39 = .ok (.aload 4, 2) := by decide +kernel
theorem dS_fullestWithRoom_41 : decode prog_1_method_30_code 41 = .ok (.aload_n 2, 1) := by decide +kernel
theorem dS_fullestWithRoom_42 : decode prog_1_method_30_code 42 = .ok (.invokevirtual 199, 3) := by decide +kernel
theorem dS_fullestWithRoom_45 : decode prog_1_method_30_code 45 = .ok (.ifCond .eq 6, 3) := by decide +kernel
theorem dS_fullestWithRoom_48 : decode prog_1_method_30_code 48 = .ok (.aload 4, 2) := by decide +kernel
theorem dS_fullestWithRoom_50 : decode prog_1_method_30_code 50 = .ok (.astore_n 2, 1) := by decide +kernel
theorem dS_fullestWithRoom_51 : decode prog_1_method_30_code 51 = .ok (.iinc 3 1, 3) := by decide +kernel
theorem dS_fullestWithRoom_54 : decode prog_1_method_30_code 54 = .ok (.goto (-50), 3) := by decide +kernel
theorem dS_fullestWithRoom_57 : decode prog_1_method_30_code 57 = .ok (.aload_n 2, 1) := by decide +kernel
theorem dS_fullestWithRoom_58 : decode prog_1_method_30_code 58 = .ok (.areturn, 1) := by decide +kernel
def fS_fullestWithRoom_B4 (rec : Int32 → Option Nat → Int32 → fl_G → Option ((Int32 × (Option Nat)) × fl_G)) (v3 : Int32) (v2 : Option Nat) (v1 : Int32) (g : fl_G) : Option ((Int32 × (Option Nat)) × fl_G) :=
  if 12 ≤ v3 then (some ((v3, v2), g)) else (fl_ck (fl_in v3 12) (fl_bd (fM_isOf (10 + (Int32.toNatClampNeg v3)) v1 g) (fun r4 g5 => if r4 = 0 then (rec (v3 + 1) v2 v1 g5) else (fl_bd (fM_isFull (10 + (Int32.toNatClampNeg v3)) g5) (fun r8 g9 => if r8 = 0 then (fl_cs v2 (rec (v3 + 1) (some (10 + (Int32.toNatClampNeg v3))) v1 g9) (fun q12 => fl_bd (fM_goesBefore (10 + (Int32.toNatClampNeg v3)) q12 g9) (fun r13 g14 => if r13 = 0 then (rec (v3 + 1) (some q12) v1 g14) else (rec (v3 + 1) (some (10 + (Int32.toNatClampNeg v3))) v1 g14)))) else (rec (v3 + 1) v2 v1 g9))))))
def fS_fullestWithRoom_L4 : Nat → Int32 → Option Nat → Int32 → fl_G → Option ((Int32 × (Option Nat)) × fl_G)
  | 0, _, _, _, _ => none
  | n + 1, v3, v2, v1, g => fS_fullestWithRoom_B4 (fS_fullestWithRoom_L4 n) v3 v2 v1 g
def fS_fullestWithRoom (a0 : Int32) (g : fl_G) : Option (Option Nat × fl_G) :=
  fl_bd (fS_fullestWithRoom_L4 1000 0 none a0 g) (fun r17 g18 => some (r17.2, g18))
set_option maxHeartbeats 4000000 in
set_option maxRecDepth 100000 in
theorem cS_fullestWithRoom (l : Launch) (dC : Nat → ClassId) (dI : Nat → Nat → Nat) (ca : Nat → ClassId) (ad : Nat → Nat) (hI : fl_inj 32 ad) (a0 : Int32) {g g1 : fl_G} {r : Option Nat} (h : fS_fullestWithRoom a0 g = some (r, g1)) : Met l yS_fullestWithRoom wS_fullestWithRoom ({ frames := 3, cells := 0, slots := 0, locals := 62 }) (va_Pc [.ref (ad 0), .int a0] (fl_Pre (dC, dI) al_cl 32 (mc_sh ca ad) ad (mc_ty ca) mc_ns g)) (fl_QQ (dC, dI) al_cl 32 (mc_sh ca ad) ad r g1) 0 0 (fl_A 32 ad) := by
  refine fl_of (cc := prog_1_method_30_code) (maxL := 5) (ret := (some (.object "MeshedSpans$Miniheap"))) (by decide) rfl (Nat.le_of_ble_eq_true rfl) ?_
  intro p e s m below meth c ls hx hb hr hml hts hown hlocks hP hK hN hl
  have hown : s.vm.findClass "MeshedSpans" = some m.cls := hown
  have hS : va_S (fl_A 32 ad) s.heap s.heap [] := va_S.rf
  have hl : lv_has ls 5 [(0, .ref (ad 0)), (1, .int a0)] := hl
  unfold fS_fullestWithRoom at h
  refine lv_null hx hb dS_fullestWithRoom_0 ?_
  refine lv_astore_nN (lv' := [(2, .null), (0, .ref (ad 0)), (1, .int a0)]) hx hb dS_fullestWithRoom_1 rfl hl (by decide) rfl (fun ls hl => ?_)
  refine lv_iconst (v := 0) hx hb dS_fullestWithRoom_2 (by decide) ?_
  refine lv_istore_n (lv' := [(3, .int 0), (2, .null), (0, .ref (ad 0)), (1, .int a0)]) hx hb dS_fullestWithRoom_3 rfl hl (by decide) rfl (fun ls hl => ?_)
  have loop1 : ∀ (n : Nat) (v3 : Int32) (v2 : Option Nat) (v1 : Int32) (g : fl_G) (z : ((Int32 × (Option Nat)) × fl_G)) (H : Heap) (locs : List Loc) (ls : Array Slot), fS_fullestWithRoom_L4 n v3 v2 v1 g = some z → va_P (dC, dI) al_cl (fl_ws 32 (mc_sh ca ad) ad g) H → va_S (fl_A 32 ad) s.heap H locs → lv_has ls 5 [(3, .int v3), (2, va_rf (Option.map ad v2)), (0, .ref (ad 0)), (1, .int v1)] → (∀ (H : Heap) (locs : List Loc) (ls : Array Slot), va_P (dC, dI) al_cl (fl_ws 32 (mc_sh ca ad) ad z.2) H → va_S (fl_A 32 ad) s.heap H locs → lv_has ls 5 [(3, .int z.1.1), (2, va_rf (Option.map ad z.1.2)), (0, .ref (ad 0)), (1, .int v1)] → W p l e ({ frames := 3, cells := 0, slots := 0, locals := 62 }) s m ([.ref (ad 0), .int a0] : List Value).toArray below meth c H locs 0 0 (MQ below (fl_QQ (dC, dI) al_cl 32 (mc_sh ca ad) ad r g1) ([.ref (ad 0), .int a0] : List Value).toArray s 0 0 (fl_A 32 ad)) (F0 m 57 ls [])) → W p l e ({ frames := 3, cells := 0, slots := 0, locals := 62 }) s m ([.ref (ad 0), .int a0] : List Value).toArray below meth c H locs 0 0 (MQ below (fl_QQ (dC, dI) al_cl 32 (mc_sh ca ad) ad r g1) ([.ref (ad 0), .int a0] : List Value).toArray s 0 0 (fl_A 32 ad)) (F0 m 4 ls []) := by
    intro n
    clear h hP hS hl
    induction n with
    | zero => intro v3 v2 v1 g z H locs ls h; cases h
    | succ n ih1 =>
      intro v3 v2 v1 g z H locs ls h hP hS hl K1
      have h : fS_fullestWithRoom_B4 (fS_fullestWithRoom_L4 n) v3 v2 v1 g = some z := h
      unfold fS_fullestWithRoom_B4 at h
      refine lv_iload_n hx hb dS_fullestWithRoom_4 rfl (lv_at hl 0 rfl) ?_
      refine lv_bipush (v := 12) hx hb dS_fullestWithRoom_5 (by decide) ?_
      refine lv_icmp_ge (tgt := 57) hx hb dS_fullestWithRoom_7 (by decide) (fun c2 => ?_) (fun c2 => ?_)
      · replace h := fl_pos c2 h
        cases h
        exact K1 _ _ _ hP hS (lv_sub hl [0, 1, 2, 3] rfl)
      · replace h := fl_neg c2 h
        refine lv_aload_n hx hb dS_fullestWithRoom_10 rfl (lv_at hl 2 rfl) ?_
        refine mc_get0 (v := .ref (ad 9)) hx hb hts mc_in0 hown hK hP (q := 0) rfl 3 (by decide) (hts _ gm_143) rfl dS_fullestWithRoom_11 ?_
        refine lv_iload_n hx hb dS_fullestWithRoom_14 rfl (lv_at hl 0 rfl) ?_
        replace h := fl_ck_some h
        obtain ⟨hi3, h⟩ := h
        refine mc_aald12 hx hb hK hP hi3 dS_fullestWithRoom_15 ?_
        refine lv_astore (lv' := [(4, .ref (ad (10 + (Int32.toNatClampNeg v3)))), (3, .int v3), (2, va_rf (Option.map ad v2)), (0, .ref (ad 0)), (1, .int v1)]) hx hb dS_fullestWithRoom_16 hl (by decide) rfl (fun ls hl => ?_)
        refine lv_aload hx hb dS_fullestWithRoom_18 (lv_at hl 0 rfl) ?_
        refine lv_iload_n hx hb dS_fullestWithRoom_20 rfl (lv_at hl 4 rfl) ?_
        replace h := fl_bd_some h
        obtain ⟨r4, g5, hc6, h⟩ := h
        refine fl_calli (va_runV (As := [.int v1]) (rest := []) ⟨hx, hb, hml, hown, hts⟩ (cM_isOf l dC dI ca ad hI (10 + (Int32.toNatClampNeg v3)) v1 hc6) (kM_isOf hts (hts _ gm_234) ⟨Nat.le_of_ble_eq_true rfl, Nat.le_of_ble_eq_true rfl⟩) (fl_preV hK hP hN (mc_lt (mc_kdM hi3.2) (by decide)) (mc_sh4 (mc_kdM hi3.2)) rfl) rfl rfl hl.1 rfl (lv_room (Nat.le_of_ble_eq_true rfl)) dS_fullestWithRoom_21 ⟨Nat.le_refl 0, Nat.le_refl 0⟩) hS (fun H locs hP hS => ?_)
        refine lv_if_eq (tgt := 51) hx hb dS_fullestWithRoom_24 (by decide) (fun c7 => ?_) (fun c7 => ?_)
        · replace h := fl_pos c7 h
          refine lv_iinc (v := (v3 + 1)) (lv' := [(3, .int (v3 + 1)), (4, .ref (ad (10 + (Int32.toNatClampNeg v3)))), (2, va_rf (Option.map ad v2)), (0, .ref (ad 0)), (1, .int v1)]) hx hb dS_fullestWithRoom_51 hl (k := 1) rfl rfl (by decide) (by simp [List.filter, fl_cat]) (fun ls hl => ?_)
          refine lv_goto (tgt := 4) hx hb dS_fullestWithRoom_54 (by decide) ?_
          exact ih1 (v3 + 1) v2 v1 _ _ _ _ _ h hP hS (lv_sub hl [0, 2, 3, 4] rfl) K1
        · replace h := fl_neg c7 h
          refine lv_aload hx hb dS_fullestWithRoom_27 (lv_at hl 0 rfl) ?_
          replace h := fl_bd_some h
          obtain ⟨r8, g9, hc10, h⟩ := h
          refine fl_calli (va_runV (As := []) (rest := []) ⟨hx, hb, hml, hown, hts⟩ (cM_isFull l dC dI ca ad hI (10 + (Int32.toNatClampNeg v3)) hc10) (kM_isFull hts (hts _ gm_238) ⟨Nat.le_of_ble_eq_true rfl, Nat.le_of_ble_eq_true rfl⟩) (fl_preV hK hP hN (mc_lt (mc_kdM hi3.2) (by decide)) (mc_sh4 (mc_kdM hi3.2)) rfl) rfl rfl hl.1 rfl (lv_room (Nat.le_of_ble_eq_true rfl)) dS_fullestWithRoom_29 ⟨Nat.le_refl 0, Nat.le_refl 0⟩) hS (fun H locs hP hS => ?_)
          refine lv_if_ne (tgt := 51) hx hb dS_fullestWithRoom_32 (by decide) (fun c11 => ?_) (fun c11 => ?_)
          · replace h := fl_neg c11 h
            refine lv_iinc (v := (v3 + 1)) (lv' := [(3, .int (v3 + 1)), (4, .ref (ad (10 + (Int32.toNatClampNeg v3)))), (2, va_rf (Option.map ad v2)), (0, .ref (ad 0)), (1, .int v1)]) hx hb dS_fullestWithRoom_51 hl (k := 1) rfl rfl (by decide) (by simp [List.filter, fl_cat]) (fun ls hl => ?_)
            refine lv_goto (tgt := 4) hx hb dS_fullestWithRoom_54 (by decide) ?_
            exact ih1 (v3 + 1) v2 v1 _ _ _ _ _ h hP hS (lv_sub hl [0, 2, 3, 4] rfl) K1
          · replace h := fl_pos c11 h
            refine fl_aloadq_n hx hb dS_fullestWithRoom_35 rfl (lv_at hl 2 rfl) ?_
            rcases v2 with _ | q12
            · replace h := fl_cs_none h
              refine lv_ifnullN (tgt := 48) hx hb dS_fullestWithRoom_36 (by decide) ?_
              refine lv_aload hx hb dS_fullestWithRoom_48 (lv_at hl 0 rfl) ?_
              refine lv_astore_n (lv' := [(2, .ref (ad (10 + (Int32.toNatClampNeg v3)))), (4, .ref (ad (10 + (Int32.toNatClampNeg v3)))), (3, .int v3), (0, .ref (ad 0)), (1, .int v1)]) hx hb dS_fullestWithRoom_50 rfl hl (by decide) rfl (fun ls hl => ?_)
              refine lv_iinc (v := (v3 + 1)) (lv' := [(3, .int (v3 + 1)), (2, .ref (ad (10 + (Int32.toNatClampNeg v3)))), (4, .ref (ad (10 + (Int32.toNatClampNeg v3)))), (0, .ref (ad 0)), (1, .int v1)]) hx hb dS_fullestWithRoom_51 hl (k := 2) rfl rfl (by decide) rfl (fun ls hl => ?_)
              refine lv_goto (tgt := 4) hx hb dS_fullestWithRoom_54 (by decide) ?_
              exact ih1 (v3 + 1) (some (10 + (Int32.toNatClampNeg v3))) v1 _ _ _ _ _ h hP hS (lv_sub hl [0, 1, 3, 4] rfl) K1
            · replace h := fl_cs_some h
              refine lv_ifnull hx hb dS_fullestWithRoom_36 ?_
              refine lv_aload hx hb dS_fullestWithRoom_39 (lv_at hl 0 rfl) ?_
              refine lv_aload_n hx hb dS_fullestWithRoom_41 rfl (lv_at hl 2 rfl) ?_
              replace h := fl_bd_some h
              obtain ⟨r13, g14, hc15, h⟩ := h
              refine fl_calli (va_runV (As := [.ref (ad q12)]) (rest := []) ⟨hx, hb, hml, hown, hts⟩ (cM_goesBefore l dC dI ca ad hI (10 + (Int32.toNatClampNeg v3)) q12 hc15) (kM_goesBefore hts (hts _ gm_254) ⟨Nat.le_of_ble_eq_true rfl, Nat.le_of_ble_eq_true rfl⟩) (fl_preV hK hP hN (mc_lt (mc_kdM hi3.2) (by decide)) (mc_sh4 (mc_kdM hi3.2)) rfl) rfl rfl hl.1 rfl (lv_room (Nat.le_of_ble_eq_true rfl)) dS_fullestWithRoom_42 ⟨Nat.le_refl 0, Nat.le_refl 0⟩) hS (fun H locs hP hS => ?_)
              refine lv_if_eq (tgt := 51) hx hb dS_fullestWithRoom_45 (by decide) (fun c16 => ?_) (fun c16 => ?_)
              · replace h := fl_pos c16 h
                refine lv_iinc (v := (v3 + 1)) (lv' := [(3, .int (v3 + 1)), (4, .ref (ad (10 + (Int32.toNatClampNeg v3)))), (2, .ref (ad q12)), (0, .ref (ad 0)), (1, .int v1)]) hx hb dS_fullestWithRoom_51 hl (k := 1) rfl rfl (by decide) rfl (fun ls hl => ?_)
                refine lv_goto (tgt := 4) hx hb dS_fullestWithRoom_54 (by decide) ?_
                exact ih1 (v3 + 1) (some q12) v1 _ _ _ _ _ h hP hS (lv_sub hl [0, 2, 3, 4] rfl) K1
              · replace h := fl_neg c16 h
                refine lv_aload hx hb dS_fullestWithRoom_48 (lv_at hl 0 rfl) ?_
                refine lv_astore_n (lv' := [(2, .ref (ad (10 + (Int32.toNatClampNeg v3)))), (4, .ref (ad (10 + (Int32.toNatClampNeg v3)))), (3, .int v3), (0, .ref (ad 0)), (1, .int v1)]) hx hb dS_fullestWithRoom_50 rfl hl (by decide) rfl (fun ls hl => ?_)
                refine lv_iinc (v := (v3 + 1)) (lv' := [(3, .int (v3 + 1)), (2, .ref (ad (10 + (Int32.toNatClampNeg v3)))), (4, .ref (ad (10 + (Int32.toNatClampNeg v3)))), (0, .ref (ad 0)), (1, .int v1)]) hx hb dS_fullestWithRoom_51 hl (k := 2) rfl rfl (by decide) rfl (fun ls hl => ?_)
                refine lv_goto (tgt := 4) hx hb dS_fullestWithRoom_54 (by decide) ?_
                exact ih1 (v3 + 1) (some (10 + (Int32.toNatClampNeg v3))) v1 _ _ _ _ _ h hP hS (lv_sub hl [0, 1, 3, 4] rfl) K1
  obtain ⟨r17, g18, hc19, h⟩ := fl_bd_some h
  refine loop1 1000 0 none a0 _ (r17, g18) _ _ _ hc19 hP hS (lv_sub hl [0, 1, 2, 3] rfl) (fun H locs ls hP hS hl => ?_)
  have hP : va_P (dC, dI) al_cl (fl_ws 32 (mc_sh ca ad) ad g18) H := hP
  have hl : lv_has ls 5 [(3, .int r17.1), (2, va_rf (Option.map ad r17.2)), (0, .ref (ad 0)), (1, .int a0)] := hl
  refine fl_aloadq_n hx hb dS_fullestWithRoom_57 rfl (lv_at hl 1 rfl) ?_
  exact fl_qret (v := r17.2) hx hb hr hlocks hP hS h dS_fullestWithRoom_58
def yS_newMiniheap : MethodName := ⟨"MeshedSpans", "newMiniheap", "(I)LMeshedSpans$Miniheap;"⟩
def wS_newMiniheap : List Cond := .code yS_newMiniheap prog_1_method_31_code 4 (some (.object "MeshedSpans$Miniheap")) :: gw
theorem kS_newMiniheap {R : Room} {s : State} {args : Array Value} {own : String} {ix : Nat} (hts : ∀ w ∈ gw, w.before args s = true) (hl : (Cond.methodLink own ix yS_newMiniheap).before args s = true) (hR : 3 + 1 ≤ R.frames ∧ 8 + (4 + 11) + 64 ≤ R.locals) : CallW R s args own "MeshedSpans" ix yS_newMiniheap prog_1_method_31_code 4 (some (.object "MeshedSpans$Miniheap")) wS_newMiniheap { frames := 3, cells := 0, slots := 0, locals := 64 } 0 0 1 := ⟨callB_of (rm := { frames := 3, cells := 0, slots := 0, locals := 64 }) 1 hts (gw_c (ct := .code yS_newMiniheap prog_1_method_31_code 4 (some (.object "MeshedSpans$Miniheap"))) gm_260) rfl rfl rfl (hts _ gm_41) hl (by decide +kernel) hR, hts _ gm_259, hts _ gm_7⟩
theorem dS_newMiniheap_0 : decode prog_1_method_31_code 0 = .ok (.aload_n 0, 1) := by decide +kernel
theorem dS_newMiniheap_1 : decode prog_1_method_31_code 1 = .ok (.getfield 21, 3) := by decide +kernel
theorem dS_newMiniheap_4 : decode prog_1_method_31_code 4 = .ok (.invokevirtual 162, 3) := by decide +kernel
theorem dS_newMiniheap_7 : decode prog_1_method_31_code 7 = .ok (.istore_n 2, 1) := by decide +kernel
theorem dS_newMiniheap_8 : decode prog_1_method_31_code 8 = .ok (.aload_n 0, 1) := by decide +kernel
theorem dS_newMiniheap_9 : decode prog_1_method_31_code 9 = .ok (.getfield 21, 3) := by decide +kernel
theorem dS_newMiniheap_12 : decode prog_1_method_31_code 12 = .ok (.iconst 1, 1) := by decide +kernel
theorem dS_newMiniheap_13 : decode prog_1_method_31_code 13 = .ok (.invokevirtual 159, 3) := by decide +kernel
theorem dS_newMiniheap_16 : decode prog_1_method_31_code 16 = .ok (.istore_n 3, 1) := by decide +kernel
theorem dS_newMiniheap_17 : decode prog_1_method_31_code 17 = .ok (.iload_n 2, 1) := by decide +kernel
theorem dS_newMiniheap_18 : decode prog_1_method_31_code 18 = .ok (.invokestatic 152, 3) := by decide +kernel
theorem dS_newMiniheap_21 : decode prog_1_method_31_code 21 = .ok (.ifCond .eq 8, 3) := by decide +kernel
theorem dS_newMiniheap_24 : decode prog_1_method_31_code 24 = .ok (.iload_n 3, 1) := by decide +kernel
theorem dS_newMiniheap_25 : decode prog_1_method_31_code 25 = .ok (.iconst (-1), 1) := by decide +kernel
theorem dS_newMiniheap_26 : decode prog_1_method_31_code 26 = .ok (.if_icmp .ne 5, 3) := by decide +kernel
theorem dS_newMiniheap_29 : decode prog_1_method_31_code 29 = .ok (.aconst_null, 1) := by decide +kernel
theorem dS_newMiniheap_30 : decode prog_1_method_31_code 30 = .ok (.areturn, 1) := by decide +kernel
theorem dS_newMiniheap_31 : decode prog_1_method_31_code 31 = .ok (.aload_n 0, 1) := by decide +kernel
theorem dS_newMiniheap_32 : decode prog_1_method_31_code 32 = .ok (.getfield 21, 3) := by decide +kernel
theorem dS_newMiniheap_35 : decode prog_1_method_31_code 35 = .ok (.iload_n 3, 1) := by decide +kernel
theorem dS_newMiniheap_36 : decode prog_1_method_31_code 36 = .ok (.iload_n 2, 1) := by decide +kernel
theorem dS_newMiniheap_37 : decode prog_1_method_31_code 37 = .ok (.invokevirtual 165, 3) := by decide +kernel
theorem dS_newMiniheap_40 : decode prog_1_method_31_code 40 = .ok (.aload_n 0, 1) := by decide +kernel
theorem dS_newMiniheap_41 : decode prog_1_method_31_code 41 = .ok (.getfield 34, 3) := by decide +kernel
theorem dS_newMiniheap_44 : decode prog_1_method_31_code 44 = .ok (.iload_n 2, 1) := by decide +kernel
theorem dS_newMiniheap_45 : decode prog_1_method_31_code 45 = .ok (.aaload, 1) := by decide +kernel
theorem dS_newMiniheap_46 : decode prog_1_method_31_code 46 = .ok (.aload_n 0, 1) := by decide +kernel
theorem dS_newMiniheap_47 : decode prog_1_method_31_code 47 = .ok (.getfield 50, 3) := by decide +kernel
theorem dS_newMiniheap_50 : decode prog_1_method_31_code 50 = .ok (.iload_n 1, 1) := by decide +kernel
theorem dS_newMiniheap_51 : decode prog_1_method_31_code 51 = .ok (.iload_n 3, 1) := by decide +kernel
theorem dS_newMiniheap_52 : decode prog_1_method_31_code 52 = .ok (.invokevirtual 203, 3) := by decide +kernel
theorem dS_newMiniheap_55 : decode prog_1_method_31_code 55 = .ok (.aload_n 0, 1) := by decide +kernel
theorem dS_newMiniheap_56 : decode prog_1_method_31_code 56 = .ok (.dup, 1) := by decide +kernel
theorem dS_newMiniheap_57 : decode prog_1_method_31_code 57 = .ok (.getfield 50, 3) := by decide +kernel
theorem dS_newMiniheap_60 : decode prog_1_method_31_code 60 = .ok (.iconst 1, 1) := by decide +kernel
theorem dS_newMiniheap_61 : decode prog_1_method_31_code 61 = .ok (.iadd, 1) := by decide +kernel
theorem dS_newMiniheap_62 : decode prog_1_method_31_code 62 = .ok (.putfield 50, 3) := by decide +kernel
theorem dS_newMiniheap_65 : decode prog_1_method_31_code 65 = .ok (.aload_n 0, 1) := by decide +kernel
theorem dS_newMiniheap_66 : decode prog_1_method_31_code 66 = .ok (.getfield 34, 3) := by decide +kernel
theorem dS_newMiniheap_69 : decode prog_1_method_31_code 69 = .ok (.iload_n 2, 1) := by decide +kernel
theorem dS_newMiniheap_70 : decode prog_1_method_31_code 70 = .ok (.aaload, 1) := by decide +kernel
theorem dS_newMiniheap_71 : decode prog_1_method_31_code 71 = .ok (.areturn, 1) := by decide +kernel
def fS_newMiniheap (a0 : Int32) (g : fl_G) : Option (Option Nat × fl_G) :=
  fl_bd (fP_lowestFree g) (fun r1 g2 => fl_bd (fP_lowestUnmappedRow 1 g2) (fun r4 g5 => fl_bd (fS_isPhysical r1 g5) (fun r7 g8 => if r7 = 0 then (some (none, g8)) else (if r4 = (-1) then (some (none, g8)) else (fl_bd (fP_open r4 r1 g8) (fun r12 g13 => fl_ck (fl_in r1 12) (fl_bd (fM_begin (10 + (Int32.toNatClampNeg r1)) (g13 0 6) a0 r4 g13) (fun r16 g17 => fl_ck (fl_in r1 12) (some ((some (10 + (Int32.toNatClampNeg r1))), (fl_up g17 0 6 ((g17 0 6) + 1))))))))))))
set_option maxHeartbeats 4000000 in
set_option maxRecDepth 100000 in
theorem cS_newMiniheap (l : Launch) (dC : Nat → ClassId) (dI : Nat → Nat → Nat) (ca : Nat → ClassId) (ad : Nat → Nat) (hI : fl_inj 32 ad) (a0 : Int32) {g g1 : fl_G} {r : Option Nat} (h : fS_newMiniheap a0 g = some (r, g1)) : Met l yS_newMiniheap wS_newMiniheap ({ frames := 3, cells := 0, slots := 0, locals := 64 }) (va_Pc [.ref (ad 0), .int a0] (fl_Pre (dC, dI) al_cl 32 (mc_sh ca ad) ad (mc_ty ca) mc_ns g)) (fl_QQ (dC, dI) al_cl 32 (mc_sh ca ad) ad r g1) 0 0 (fl_A 32 ad) := by
  refine fl_of (cc := prog_1_method_31_code) (maxL := 4) (ret := (some (.object "MeshedSpans$Miniheap"))) (by decide) rfl (Nat.le_of_ble_eq_true rfl) ?_
  intro p e s m below meth c ls hx hb hr hml hts hown hlocks hP hK hN hl
  have hown : s.vm.findClass "MeshedSpans" = some m.cls := hown
  have hS : va_S (fl_A 32 ad) s.heap s.heap [] := va_S.rf
  have hl : lv_has ls 4 [(0, .ref (ad 0)), (1, .int a0)] := hl
  unfold fS_newMiniheap at h
  refine lv_aload_n hx hb dS_newMiniheap_0 rfl (lv_at hl 0 rfl) ?_
  refine mc_get0 (v := .ref (ad 2)) hx hb hts mc_in0 hown hK hP (q := 0) rfl 1 (by decide) (hts _ gm_141) rfl dS_newMiniheap_1 ?_
  replace h := fl_bd_some h
  obtain ⟨r1, g2, hc3, h⟩ := h
  refine fl_calli (va_runV (As := []) (rest := []) ⟨hx, hb, hml, hown, hts⟩ (cP_lowestFree l dC dI ca ad hI  hc3) (kP_lowestFree hts (hts _ gm_188) ⟨Nat.le_of_ble_eq_true rfl, Nat.le_of_ble_eq_true rfl⟩) (fl_preV hK hP hN (mc_lt rfl (by decide)) (mc_sh2 rfl) rfl) rfl rfl hl.1 rfl (lv_room (Nat.le_of_ble_eq_true rfl)) dS_newMiniheap_4 ⟨Nat.le_refl 0, Nat.le_refl 0⟩) hS (fun H locs hP hS => ?_)
  refine lv_istore_n (lv' := [(2, .int r1), (0, .ref (ad 0)), (1, .int a0)]) hx hb dS_newMiniheap_7 rfl hl (by decide) rfl (fun ls hl => ?_)
  refine lv_aload_n hx hb dS_newMiniheap_8 rfl (lv_at hl 1 rfl) ?_
  refine mc_get0 (v := .ref (ad 2)) hx hb hts mc_in0 hown hK hP (q := 0) rfl 1 (by decide) (hts _ gm_141) rfl dS_newMiniheap_9 ?_
  refine lv_iconst (v := 1) hx hb dS_newMiniheap_12 (by decide) ?_
  replace h := fl_bd_some h
  obtain ⟨r4, g5, hc6, h⟩ := h
  refine fl_calli (va_runV (As := [.int 1]) (rest := []) ⟨hx, hb, hml, hown, hts⟩ (cP_lowestUnmappedRow l dC dI ca ad hI 1 hc6) (kP_lowestUnmappedRow hts (hts _ gm_180) ⟨Nat.le_of_ble_eq_true rfl, Nat.le_of_ble_eq_true rfl⟩) (fl_preV hK hP hN (mc_lt rfl (by decide)) (mc_sh2 rfl) rfl) rfl rfl hl.1 rfl (lv_room (Nat.le_of_ble_eq_true rfl)) dS_newMiniheap_13 ⟨Nat.le_refl 0, Nat.le_refl 0⟩) hS (fun H locs hP hS => ?_)
  refine lv_istore_n (lv' := [(3, .int r4), (2, .int r1), (0, .ref (ad 0)), (1, .int a0)]) hx hb dS_newMiniheap_16 rfl hl (by decide) rfl (fun ls hl => ?_)
  refine lv_iload_n hx hb dS_newMiniheap_17 rfl (lv_at hl 1 rfl) ?_
  replace h := fl_bd_some h
  obtain ⟨r7, g8, hc9, h⟩ := h
  refine fl_calli (va_runS (As := [.int r1]) (rest := []) ⟨hx, hb, hml, hown, hts⟩ (cS_isPhysical l dC dI ca ad hI r1 hc9) (kS_isPhysical hts (hts _ gm_261) ⟨Nat.le_of_ble_eq_true rfl, Nat.le_of_ble_eq_true rfl⟩) (fl_preS hK hP hN) rfl rfl hl.1 rfl (lv_room (Nat.le_of_ble_eq_true rfl)) dS_newMiniheap_18 ⟨Nat.le_refl 0, Nat.le_refl 0⟩) hS (fun H locs hP hS => ?_)
  refine lv_if_eq (tgt := 29) hx hb dS_newMiniheap_21 (by decide) (fun c10 => ?_) (fun c10 => ?_)
  · replace h := fl_pos c10 h
    refine lv_null hx hb dS_newMiniheap_29 ?_
    exact fl_qret (v := none) hx hb hr hlocks hP hS h dS_newMiniheap_30
  · replace h := fl_neg c10 h
    refine lv_iload_n hx hb dS_newMiniheap_24 rfl (lv_at hl 0 rfl) ?_
    refine lv_iconst (v := (-1)) hx hb dS_newMiniheap_25 (by decide) ?_
    refine lv_icmp_ne (tgt := 31) hx hb dS_newMiniheap_26 (by decide) (fun c11 => ?_) (fun c11 => ?_)
    · replace h := fl_neg c11 h
      refine lv_aload_n hx hb dS_newMiniheap_31 rfl (lv_at hl 2 rfl) ?_
      refine mc_get0 (v := .ref (ad 2)) hx hb hts mc_in0 hown hK hP (q := 0) rfl 1 (by decide) (hts _ gm_141) rfl dS_newMiniheap_32 ?_
      refine lv_iload_n hx hb dS_newMiniheap_35 rfl (lv_at hl 0 rfl) ?_
      refine lv_iload_n hx hb dS_newMiniheap_36 rfl (lv_at hl 1 rfl) ?_
      replace h := fl_bd_some h
      obtain ⟨r12, g13, hc14, h⟩ := h
      refine fl_callv (va_runV (As := [.int r4, .int r1]) (rest := []) ⟨hx, hb, hml, hown, hts⟩ (cP_open l dC dI ca ad hI r4 r1 hc14) (kP_open hts (hts _ gm_192) ⟨Nat.le_of_ble_eq_true rfl, Nat.le_of_ble_eq_true rfl⟩) (fl_preV hK hP hN (mc_lt rfl (by decide)) (mc_sh2 rfl) rfl) rfl rfl hl.1 rfl (lv_room (Nat.le_of_ble_eq_true rfl)) dS_newMiniheap_37 ⟨Nat.le_refl 0, Nat.le_refl 0⟩) hS (fun H locs hP hS => ?_)
      refine lv_aload_n hx hb dS_newMiniheap_40 rfl (lv_at hl 2 rfl) ?_
      refine mc_get0 (v := .ref (ad 9)) hx hb hts mc_in0 hown hK hP (q := 0) rfl 3 (by decide) (hts _ gm_143) rfl dS_newMiniheap_41 ?_
      refine lv_iload_n hx hb dS_newMiniheap_44 rfl (lv_at hl 1 rfl) ?_
      replace h := fl_ck_some h
      obtain ⟨hi15, h⟩ := h
      refine mc_aald12 hx hb hK hP hi15 dS_newMiniheap_45 ?_
      refine lv_aload_n hx hb dS_newMiniheap_46 rfl (lv_at hl 2 rfl) ?_
      refine mc_get0 (v := .int (g13 0 6)) hx hb hts mc_in0 hown hK hP (q := 0) rfl 6 (by decide) (hts _ gm_146) rfl dS_newMiniheap_47 ?_
      refine lv_iload_n hx hb dS_newMiniheap_50 rfl (lv_at hl 3 rfl) ?_
      refine lv_iload_n hx hb dS_newMiniheap_51 rfl (lv_at hl 0 rfl) ?_
      replace h := fl_bd_some h
      obtain ⟨r16, g17, hc18, h⟩ := h
      refine fl_callv (va_runV (As := [.int (g13 0 6), .int a0, .int r4]) (rest := []) ⟨hx, hb, hml, hown, hts⟩ (cM_begin l dC dI ca ad hI (10 + (Int32.toNatClampNeg r1)) (g13 0 6) a0 r4 hc18) (kM_begin hts (hts _ gm_262) ⟨Nat.le_of_ble_eq_true rfl, Nat.le_of_ble_eq_true rfl⟩) (fl_preV hK hP hN (mc_lt (mc_kdM hi15.2) (by decide)) (mc_sh4 (mc_kdM hi15.2)) rfl) rfl rfl hl.1 rfl (lv_room (Nat.le_of_ble_eq_true rfl)) dS_newMiniheap_52 ⟨Nat.le_refl 0, Nat.le_refl 0⟩) hS (fun H locs hP hS => ?_)
      refine lv_aload_n hx hb dS_newMiniheap_55 rfl (lv_at hl 2 rfl) ?_
      refine lv_dup hx hb dS_newMiniheap_56 rfl ?_
      refine mc_get0 (v := .int (g17 0 6)) hx hb hts mc_in0 hown hK hP (q := 0) rfl 6 (by decide) (hts _ gm_146) rfl dS_newMiniheap_57 ?_
      refine lv_iconst (v := 1) hx hb dS_newMiniheap_60 (by decide) ?_
      refine lv_iadd hx hb dS_newMiniheap_61 ?_
      refine mc_put0 (iv := ((g17 0 6) + 1)) hx hb hts mc_in0 hown hK hP hI hS (q := 0) rfl 6 (by decide) (hts _ gm_146) rfl rfl rfl dS_newMiniheap_62 (fun H locs hP hS => ?_)
      have hP : va_P (dC, dI) al_cl (fl_ws 32 (mc_sh ca ad) ad (fl_up g17 0 6 ((g17 0 6) + 1))) H := hP
      refine lv_aload_n hx hb dS_newMiniheap_65 rfl (lv_at hl 2 rfl) ?_
      refine mc_get0 (v := .ref (ad 9)) hx hb hts mc_in0 hown hK hP (q := 0) rfl 3 (by decide) (hts _ gm_143) rfl dS_newMiniheap_66 ?_
      refine lv_iload_n hx hb dS_newMiniheap_69 rfl (lv_at hl 1 rfl) ?_
      replace h := fl_ck_some h
      obtain ⟨hi19, h⟩ := h
      refine mc_aald12 hx hb hK hP hi19 dS_newMiniheap_70 ?_
      exact fl_qret (v := (some (10 + (Int32.toNatClampNeg r1)))) hx hb hr hlocks hP hS h dS_newMiniheap_71
    · replace h := fl_pos c11 h
      refine lv_null hx hb dS_newMiniheap_29 ?_
      exact fl_qret (v := none) hx hb hr hlocks hP hS h dS_newMiniheap_30
def yS_attachNext : MethodName := ⟨"MeshedSpans", "attachNext", "(I)V"⟩
def wS_attachNext : List Cond := .code yS_attachNext prog_1_method_29_code 3 none :: gw
theorem kS_attachNext {R : Room} {s : State} {args : Array Value} {own : String} {ix : Nat} (hts : ∀ w ∈ gw, w.before args s = true) (hl : (Cond.methodLink own ix yS_attachNext).before args s = true) (hR : 4 + 1 ≤ R.frames ∧ 8 + (3 + 11) + 87 ≤ R.locals) : CallW R s args own "MeshedSpans" ix yS_attachNext prog_1_method_29_code 3 none wS_attachNext { frames := 4, cells := 0, slots := 0, locals := 87 } 0 0 1 := ⟨callB_of (rm := { frames := 4, cells := 0, slots := 0, locals := 87 }) 1 hts (gw_c (ct := .code yS_attachNext prog_1_method_29_code 3 none) gm_230) rfl rfl rfl (hts _ gm_41) hl (by decide +kernel) hR, hts _ gm_229, hts _ gm_5⟩
theorem dS_attachNext_0 : decode prog_1_method_29_code 0 = .ok (.aload_n 0, 1) := by decide +kernel
theorem dS_attachNext_1 : decode prog_1_method_29_code 1 = .ok (.iload_n 1, 1) := by decide +kernel
theorem dS_attachNext_2 : decode prog_1_method_29_code 2 = .ok (.invokevirtual 186, 3) := by decide +kernel
theorem dS_attachNext_5 : decode prog_1_method_29_code 5 = .ok (.astore_n 2, 1) := by decide +kernel
theorem dS_attachNext_6 : decode prog_1_method_29_code 6 = .ok (.aload_n 2, 1) := by decide +kernel
theorem dS_attachNext_7 : decode prog_1_method_29_code 7 = .ok (.ifnonnull 9, 3) := by decide +kernel
theorem dS_attachNext_10 : decode prog_1_method_29_code 10 = .ok (.aload_n 0, 1) := by decide +kernel
theorem dS_attachNext_11 : decode prog_1_method_29_code 11 = .ok (.iload_n 1, 1) := by decide +kernel
theorem dS_attachNext_12 : decode prog_1_method_29_code 12 = .ok (.invokevirtual 189, 3) := by decide +kernel
theorem dS_attachNext_15 : decode prog_1_method_29_code 15 = .ok (.astore_n 2, 1) := by decide +kernel
theorem dS_attachNext_16 : decode prog_1_method_29_code 16 = .ok (.aload_n 2, 1) := by decide +kernel
theorem dS_attachNext_17 : decode prog_1_method_29_code 17 = .ok (.ifnull 17, 3) := by decide +kernel
theorem dS_attachNext_20 : decode prog_1_method_29_code 20 = .ok (.aload_n 0, 1) := by decide +kernel
theorem dS_attachNext_21 : decode prog_1_method_29_code 21 = .ok (.getfield 41, 3) := by decide +kernel
theorem dS_attachNext_24 : decode prog_1_method_29_code 24 = .ok (.iload_n 1, 1) := by decide +kernel
theorem dS_attachNext_25 : decode prog_1_method_29_code 25 = .ok (.aaload, 1) := by decide +kernel
theorem dS_attachNext_26 : decode prog_1_method_29_code 26 = .ok (.aload_n 2, 1) := by decide +kernel
theorem dS_attachNext_27 : decode prog_1_method_29_code 27 = .ok (.aload_n 0, 1) := by decide +kernel
theorem dS_attachNext_28 : decode prog_1_method_29_code 28 = .ok (.getfield 14, 3) := by decide +kernel
theorem dS_attachNext_31 : decode prog_1_method_29_code 31 = .ok (.invokevirtual 192, 3) := by decide +kernel
theorem dS_attachNext_34 : decode prog_1_method_29_code 34 = .ok (.return_, 1) := by decide +kernel
def fS_attachNext (a0 : Int32) (g : fl_G) : Option (Unit × fl_G) :=
  fl_bd (fS_fullestWithRoom a0 g) (fun r1 g2 => fl_cs r1 (fl_bd (fS_newMiniheap a0 g2) (fun r5 g6 => fl_cs r5 (some ((), g6)) (fun q8 => fl_ck (fl_in a0 4) (fl_bd (fA_attach (23 + 2 * (Int32.toNatClampNeg a0)) q8 g6) (fun r10 g11 => some ((), g11)))))) (fun q4 => fl_ck (fl_in a0 4) (fl_bd (fA_attach (23 + 2 * (Int32.toNatClampNeg a0)) q4 g2) (fun r14 g15 => some ((), g15)))))
set_option maxHeartbeats 4000000 in
set_option maxRecDepth 100000 in
theorem cS_attachNext (l : Launch) (dC : Nat → ClassId) (dI : Nat → Nat → Nat) (ca : Nat → ClassId) (ad : Nat → Nat) (hI : fl_inj 32 ad) (a0 : Int32) {g g1 : fl_G} {r : Unit} (h : fS_attachNext a0 g = some (r, g1)) : Met l yS_attachNext wS_attachNext ({ frames := 4, cells := 0, slots := 0, locals := 87 }) (va_Pc [.ref (ad 0), .int a0] (fl_Pre (dC, dI) al_cl 32 (mc_sh ca ad) ad (mc_ty ca) mc_ns g)) (fl_QV (dC, dI) al_cl 32 (mc_sh ca ad) ad g1) 0 0 (fl_A 32 ad) := by
  refine fl_of (cc := prog_1_method_29_code) (maxL := 3) (ret := none) (by decide) rfl (Nat.le_of_ble_eq_true rfl) ?_
  intro p e s m below meth c ls hx hb hr hml hts hown hlocks hP hK hN hl
  have hown : s.vm.findClass "MeshedSpans" = some m.cls := hown
  have hS : va_S (fl_A 32 ad) s.heap s.heap [] := va_S.rf
  have hl : lv_has ls 3 [(0, .ref (ad 0)), (1, .int a0)] := hl
  unfold fS_attachNext at h
  refine lv_aload_n hx hb dS_attachNext_0 rfl (lv_at hl 0 rfl) ?_
  refine lv_iload_n hx hb dS_attachNext_1 rfl (lv_at hl 1 rfl) ?_
  replace h := fl_bd_some h
  obtain ⟨r1, g2, hc3, h⟩ := h
  refine fl_callq (va_runV (As := [.int a0]) (rest := []) ⟨hx, hb, hml, hown, hts⟩ (cS_fullestWithRoom l dC dI ca ad hI a0 hc3) (kS_fullestWithRoom hts (hts _ gm_231) ⟨Nat.le_of_ble_eq_true rfl, Nat.le_of_ble_eq_true rfl⟩) (fl_preV hK hP hN (mc_lt rfl (by decide)) (mc_sh0 rfl) rfl) rfl rfl hl.1 rfl (lv_room (Nat.le_of_ble_eq_true rfl)) dS_attachNext_2 ⟨Nat.le_refl 0, Nat.le_refl 0⟩) hS (fun H locs hP hS => ?_)
  refine fl_astoreq_n (lv' := [(2, va_rf (Option.map ad r1)), (0, .ref (ad 0)), (1, .int a0)]) hx hb dS_attachNext_5 rfl hl (by decide) rfl (fun ls hl => ?_)
  refine fl_aloadq_n hx hb dS_attachNext_6 rfl (lv_at hl 0 rfl) ?_
  rcases r1 with _ | q4
  · replace h := fl_cs_none h
    refine lv_ifnonnullN hx hb dS_attachNext_7 ?_
    refine lv_aload_n hx hb dS_attachNext_10 rfl (lv_at hl 1 rfl) ?_
    refine lv_iload_n hx hb dS_attachNext_11 rfl (lv_at hl 2 rfl) ?_
    replace h := fl_bd_some h
    obtain ⟨r5, g6, hc7, h⟩ := h
    refine fl_callq (va_runV (As := [.int a0]) (rest := []) ⟨hx, hb, hml, hown, hts⟩ (cS_newMiniheap l dC dI ca ad hI a0 hc7) (kS_newMiniheap hts (hts _ gm_258) ⟨Nat.le_of_ble_eq_true rfl, Nat.le_of_ble_eq_true rfl⟩) (fl_preV hK hP hN (mc_lt rfl (by decide)) (mc_sh0 rfl) rfl) rfl rfl hl.1 rfl (lv_room (Nat.le_of_ble_eq_true rfl)) dS_attachNext_12 ⟨Nat.le_refl 0, Nat.le_refl 0⟩) hS (fun H locs hP hS => ?_)
    refine fl_astoreq_n (lv' := [(2, va_rf (Option.map ad r5)), (0, .ref (ad 0)), (1, .int a0)]) hx hb dS_attachNext_15 rfl hl (by decide) rfl (fun ls hl => ?_)
    refine fl_aloadq_n hx hb dS_attachNext_16 rfl (lv_at hl 0 rfl) ?_
    rcases r5 with _ | q8
    · replace h := fl_cs_none h
      refine lv_ifnullN (tgt := 34) hx hb dS_attachNext_17 (by decide) ?_
      exact fl_vret hx hb hr hlocks hP hS h dS_attachNext_34
    · replace h := fl_cs_some h
      refine lv_ifnull hx hb dS_attachNext_17 ?_
      refine lv_aload_n hx hb dS_attachNext_20 rfl (lv_at hl 1 rfl) ?_
      refine mc_get0 (v := .ref (ad 22)) hx hb hts mc_in0 hown hK hP (q := 0) rfl 4 (by decide) (hts _ gm_144) rfl dS_attachNext_21 ?_
      refine lv_iload_n hx hb dS_attachNext_24 rfl (lv_at hl 2 rfl) ?_
      replace h := fl_ck_some h
      obtain ⟨hi9, h⟩ := h
      refine mc_aald13 hx hb hK hP hi9 dS_attachNext_25 ?_
      refine lv_aload_n hx hb dS_attachNext_26 rfl (lv_at hl 0 rfl) ?_
      refine lv_aload_n hx hb dS_attachNext_27 rfl (lv_at hl 1 rfl) ?_
      refine mc_get0 (v := .ref (ad 1)) hx hb hts mc_in0 hown hK hP (q := 0) rfl 0 (by decide) (hts _ gm_140) rfl dS_attachNext_28 ?_
      replace h := fl_bd_some h
      obtain ⟨r10, g11, hc12, h⟩ := h
      refine fl_callv (va_runV (As := [.ref (ad q8), .ref (ad 1)]) (rest := []) ⟨hx, hb, hml, hown, hts⟩ (cA_attach l dC dI ca ad hI (23 + 2 * (Int32.toNatClampNeg a0)) q8 hc12) (kA_attach hts (hts _ gm_266) ⟨Nat.le_of_ble_eq_true rfl, Nat.le_of_ble_eq_true rfl⟩) (fl_preV hK hP hN (mc_lt (mc_kdB hi9.2) (by decide)) (mc_sh5 (mc_kdB hi9.2)) rfl) rfl rfl hl.1 rfl (lv_room (Nat.le_of_ble_eq_true rfl)) dS_attachNext_31 ⟨Nat.le_refl 0, Nat.le_refl 0⟩) hS (fun H locs hP hS => ?_)
      exact fl_vret hx hb hr hlocks hP hS h dS_attachNext_34
  · replace h := fl_cs_some h
    refine lv_ifnonnull (tgt := 16) hx hb dS_attachNext_7 (by decide) ?_
    refine lv_aload_n hx hb dS_attachNext_16 rfl (lv_at hl 0 rfl) ?_
    refine lv_ifnull hx hb dS_attachNext_17 ?_
    refine lv_aload_n hx hb dS_attachNext_20 rfl (lv_at hl 1 rfl) ?_
    refine mc_get0 (v := .ref (ad 22)) hx hb hts mc_in0 hown hK hP (q := 0) rfl 4 (by decide) (hts _ gm_144) rfl dS_attachNext_21 ?_
    refine lv_iload_n hx hb dS_attachNext_24 rfl (lv_at hl 2 rfl) ?_
    replace h := fl_ck_some h
    obtain ⟨hi13, h⟩ := h
    refine mc_aald13 hx hb hK hP hi13 dS_attachNext_25 ?_
    refine lv_aload_n hx hb dS_attachNext_26 rfl (lv_at hl 0 rfl) ?_
    refine lv_aload_n hx hb dS_attachNext_27 rfl (lv_at hl 1 rfl) ?_
    refine mc_get0 (v := .ref (ad 1)) hx hb hts mc_in0 hown hK hP (q := 0) rfl 0 (by decide) (hts _ gm_140) rfl dS_attachNext_28 ?_
    replace h := fl_bd_some h
    obtain ⟨r14, g15, hc16, h⟩ := h
    refine fl_callv (va_runV (As := [.ref (ad q4), .ref (ad 1)]) (rest := []) ⟨hx, hb, hml, hown, hts⟩ (cA_attach l dC dI ca ad hI (23 + 2 * (Int32.toNatClampNeg a0)) q4 hc16) (kA_attach hts (hts _ gm_266) ⟨Nat.le_of_ble_eq_true rfl, Nat.le_of_ble_eq_true rfl⟩) (fl_preV hK hP hN (mc_lt (mc_kdB hi13.2) (by decide)) (mc_sh5 (mc_kdB hi13.2)) rfl) rfl rfl hl.1 rfl (lv_room (Nat.le_of_ble_eq_true rfl)) dS_attachNext_31 ⟨Nat.le_refl 0, Nat.le_refl 0⟩) hS (fun H locs hP hS => ?_)
    exact fl_vret hx hb hr hlocks hP hS h dS_attachNext_34
def yS_makeSmall : MethodName := ⟨"MeshedSpans", "makeSmall", "(I)I"⟩
def wS_makeSmall : List Cond := .code yS_makeSmall prog_1_method_28_code 4 (some .int) :: gw
theorem kS_makeSmall {R : Room} {s : State} {args : Array Value} {own : String} {ix : Nat} (hts : ∀ w ∈ gw, w.before args s = true) (hl : (Cond.methodLink own ix yS_makeSmall).before args s = true) (hR : 5 + 1 ≤ R.frames ∧ 8 + (4 + 11) + 109 ≤ R.locals) : CallW R s args own "MeshedSpans" ix yS_makeSmall prog_1_method_28_code 4 (some .int) wS_makeSmall { frames := 5, cells := 0, slots := 0, locals := 109 } 0 0 1 := ⟨callB_of (rm := { frames := 5, cells := 0, slots := 0, locals := 109 }) 1 hts (gw_c (ct := .code yS_makeSmall prog_1_method_28_code 4 (some .int)) gm_223) rfl rfl rfl (hts _ gm_41) hl (by decide +kernel) hR, hts _ gm_222, hts _ gm_4⟩
theorem dS_makeSmall_0 : decode prog_1_method_28_code 0 = .ok (.aload_n 0, 1) := by decide +kernel
theorem dS_makeSmall_1 : decode prog_1_method_28_code 1 = .ok (.getfield 41, 3) := by decide +kernel
theorem dS_makeSmall_4 : decode prog_1_method_28_code 4 = .ok (.iload_n 1, 1) := by decide +kernel
theorem dS_makeSmall_5 : decode prog_1_method_28_code 5 = .ok (.aaload, 1) := by decide +kernel
theorem dS_makeSmall_6 : decode prog_1_method_28_code 6 = .ok (.astore_n 2, 1) := by decide +kernel
theorem dS_makeSmall_7 : decode prog_1_method_28_code 7 = .ok (.aload_n 2, 1) := by decide +kernel
theorem dS_makeSmall_8 : decode prog_1_method_28_code 8 = .ok (.invokevirtual 174, 3) := by decide +kernel
theorem dS_makeSmall_11 : decode prog_1_method_28_code 11 = .ok (.ifCond .eq 8, 3) := by decide +kernel
theorem dS_makeSmall_14 : decode prog_1_method_28_code 14 = .ok (.aload_n 0, 1) := by decide +kernel
theorem dS_makeSmall_15 : decode prog_1_method_28_code 15 = .ok (.iload_n 1, 1) := by decide +kernel
theorem dS_makeSmall_16 : decode prog_1_method_28_code 16 = .ok (.invokevirtual 177, 3) := by decide +kernel
theorem dS_makeSmall_19 : decode prog_1_method_28_code 19 = .ok (.aload_n 2, 1) := by decide +kernel
theorem dS_makeSmall_20 : decode prog_1_method_28_code 20 = .ok (.invokevirtual 180, 3) := by decide +kernel
theorem dS_makeSmall_23 : decode prog_1_method_28_code 23 = .ok (.istore_n 3, 1) := by decide +kernel
theorem dS_makeSmall_24 : decode prog_1_method_28_code 24 = .ok (.iload_n 3, 1) := by decide +kernel
theorem dS_makeSmall_25 : decode prog_1_method_28_code 25 = .ok (.iconst (-1), 1) := by decide +kernel
theorem dS_makeSmall_26 : decode prog_1_method_28_code 26 = .ok (.if_icmp .eq 27, 3) := by decide +kernel
theorem dS_makeSmall_29 : decode prog_1_method_28_code 29 = .ok (.aload_n 0, 1) := by decide +kernel
theorem dS_makeSmall_30 : decode prog_1_method_28_code 30 = .ok (.getfield 21, 3) := by decide +kernel
theorem dS_makeSmall_33 : decode prog_1_method_28_code 33 = .ok (.iload_n 3, 1) := by decide +kernel
theorem dS_makeSmall_34 : decode prog_1_method_28_code 34 = .ok (.iload_n 1, 1) := by decide +kernel
theorem dS_makeSmall_35 : decode prog_1_method_28_code 35 = .ok (.invokestatic 146, 3) := by decide +kernel
theorem dS_makeSmall_38 : decode prog_1_method_28_code 38 = .ok (.invokevirtual 183, 3) := by decide +kernel
theorem dS_makeSmall_41 : decode prog_1_method_28_code 41 = .ok (.aload_n 0, 1) := by decide +kernel
theorem dS_makeSmall_42 : decode prog_1_method_28_code 42 = .ok (.getfield 28, 3) := by decide +kernel
theorem dS_makeSmall_45 : decode prog_1_method_28_code 45 = .ok (.iload_n 3, 1) := by decide +kernel
theorem dS_makeSmall_46 : decode prog_1_method_28_code 46 = .ok (.iload_n 1, 1) := by decide +kernel
theorem dS_makeSmall_47 : decode prog_1_method_28_code 47 = .ok (.invokestatic 146, 3) := by decide +kernel
theorem dS_makeSmall_50 : decode prog_1_method_28_code 50 = .ok (.invokevirtual 168, 3) := by decide +kernel
theorem dS_makeSmall_53 : decode prog_1_method_28_code 53 = .ok (.iload_n 3, 1) := by decide +kernel
theorem dS_makeSmall_54 : decode prog_1_method_28_code 54 = .ok (.ireturn, 1) := by decide +kernel
def fS_makeSmall (a0 : Int32) (g : fl_G) : Option (Int32 × fl_G) :=
  fl_ck (fl_in a0 4) (fl_bd (fA_isSpent (23 + 2 * (Int32.toNatClampNeg a0)) g) (fun r2 g3 => if r2 = 0 then (fl_bd (fA_handOut (23 + 2 * (Int32.toNatClampNeg a0)) g3) (fun r6 g7 => if r6 = (-1) then (some (r6, g7)) else (fl_bd (fS_wordsOfClass a0 g7) (fun r10 g11 => fl_bd (fP_clear r6 r10 g11) (fun r13 g14 => fl_bd (fS_wordsOfClass a0 g14) (fun r16 g17 => fl_bd (fB_add r6 r16 g17) (fun r19 g20 => some (r6, g20)))))))) else (fl_bd (fS_attachNext a0 g3) (fun r22 g23 => fl_bd (fA_handOut (23 + 2 * (Int32.toNatClampNeg a0)) g23) (fun r25 g26 => if r25 = (-1) then (some (r25, g26)) else (fl_bd (fS_wordsOfClass a0 g26) (fun r29 g30 => fl_bd (fP_clear r25 r29 g30) (fun r32 g33 => fl_bd (fS_wordsOfClass a0 g33) (fun r35 g36 => fl_bd (fB_add r25 r35 g36) (fun r38 g39 => some (r25, g39)))))))))))
set_option maxHeartbeats 4000000 in
set_option maxRecDepth 100000 in
theorem cS_makeSmall (l : Launch) (dC : Nat → ClassId) (dI : Nat → Nat → Nat) (ca : Nat → ClassId) (ad : Nat → Nat) (hI : fl_inj 32 ad) (a0 : Int32) {g g1 : fl_G} {r : Int32} (h : fS_makeSmall a0 g = some (r, g1)) : Met l yS_makeSmall wS_makeSmall ({ frames := 5, cells := 0, slots := 0, locals := 109 }) (va_Pc [.ref (ad 0), .int a0] (fl_Pre (dC, dI) al_cl 32 (mc_sh ca ad) ad (mc_ty ca) mc_ns g)) (fl_QI (dC, dI) al_cl 32 (mc_sh ca ad) ad r g1) 0 0 (fl_A 32 ad) := by
  refine fl_of (cc := prog_1_method_28_code) (maxL := 4) (ret := (some .int)) (by decide) rfl (Nat.le_of_ble_eq_true rfl) ?_
  intro p e s m below meth c ls hx hb hr hml hts hown hlocks hP hK hN hl
  have hown : s.vm.findClass "MeshedSpans" = some m.cls := hown
  have hS : va_S (fl_A 32 ad) s.heap s.heap [] := va_S.rf
  have hl : lv_has ls 4 [(0, .ref (ad 0)), (1, .int a0)] := hl
  unfold fS_makeSmall at h
  refine lv_aload_n hx hb dS_makeSmall_0 rfl (lv_at hl 0 rfl) ?_
  refine mc_get0 (v := .ref (ad 22)) hx hb hts mc_in0 hown hK hP (q := 0) rfl 4 (by decide) (hts _ gm_144) rfl dS_makeSmall_1 ?_
  refine lv_iload_n hx hb dS_makeSmall_4 rfl (lv_at hl 1 rfl) ?_
  replace h := fl_ck_some h
  obtain ⟨hi1, h⟩ := h
  refine mc_aald13 hx hb hK hP hi1 dS_makeSmall_5 ?_
  refine lv_astore_n (lv' := [(2, .ref (ad (23 + 2 * (Int32.toNatClampNeg a0)))), (0, .ref (ad 0)), (1, .int a0)]) hx hb dS_makeSmall_6 rfl hl (by decide) rfl (fun ls hl => ?_)
  refine lv_aload_n hx hb dS_makeSmall_7 rfl (lv_at hl 0 rfl) ?_
  replace h := fl_bd_some h
  obtain ⟨r2, g3, hc4, h⟩ := h
  refine fl_calli (va_runV (As := []) (rest := []) ⟨hx, hb, hml, hown, hts⟩ (cA_isSpent l dC dI ca ad hI (23 + 2 * (Int32.toNatClampNeg a0)) hc4) (kA_isSpent hts (hts _ gm_224) ⟨Nat.le_of_ble_eq_true rfl, Nat.le_of_ble_eq_true rfl⟩) (fl_preV hK hP hN (mc_lt (mc_kdB hi1.2) (by decide)) (mc_sh5 (mc_kdB hi1.2)) rfl) rfl rfl hl.1 rfl (lv_room (Nat.le_of_ble_eq_true rfl)) dS_makeSmall_8 ⟨Nat.le_refl 0, Nat.le_refl 0⟩) hS (fun H locs hP hS => ?_)
  refine lv_if_eq (tgt := 19) hx hb dS_makeSmall_11 (by decide) (fun c5 => ?_) (fun c5 => ?_)
  · replace h := fl_pos c5 h
    refine lv_aload_n hx hb dS_makeSmall_19 rfl (lv_at hl 0 rfl) ?_
    replace h := fl_bd_some h
    obtain ⟨r6, g7, hc8, h⟩ := h
    refine fl_calli (va_runV (As := []) (rest := []) ⟨hx, hb, hml, hown, hts⟩ (cA_handOut l dC dI ca ad hI (23 + 2 * (Int32.toNatClampNeg a0)) hc8) (kA_handOut hts (hts _ gm_287) ⟨Nat.le_of_ble_eq_true rfl, Nat.le_of_ble_eq_true rfl⟩) (fl_preV hK hP hN (mc_lt (mc_kdB hi1.2) (by decide)) (mc_sh5 (mc_kdB hi1.2)) rfl) rfl rfl hl.1 rfl (lv_room (Nat.le_of_ble_eq_true rfl)) dS_makeSmall_20 ⟨Nat.le_refl 0, Nat.le_refl 0⟩) hS (fun H locs hP hS => ?_)
    refine lv_istore_n (lv' := [(3, .int r6), (2, .ref (ad (23 + 2 * (Int32.toNatClampNeg a0)))), (0, .ref (ad 0)), (1, .int a0)]) hx hb dS_makeSmall_23 rfl hl (by decide) rfl (fun ls hl => ?_)
    refine lv_iload_n hx hb dS_makeSmall_24 rfl (lv_at hl 0 rfl) ?_
    refine lv_iconst (v := (-1)) hx hb dS_makeSmall_25 (by decide) ?_
    refine lv_icmp_eq (tgt := 53) hx hb dS_makeSmall_26 (by decide) (fun c9 => ?_) (fun c9 => ?_)
    · replace h := fl_pos c9 h
      refine lv_iload_n hx hb dS_makeSmall_53 rfl (lv_at hl 0 rfl) ?_
      exact fl_iret hx hb hr hlocks hP hS h dS_makeSmall_54
    · replace h := fl_neg c9 h
      refine lv_aload_n hx hb dS_makeSmall_29 rfl (lv_at hl 2 rfl) ?_
      refine mc_get0 (v := .ref (ad 2)) hx hb hts mc_in0 hown hK hP (q := 0) rfl 1 (by decide) (hts _ gm_141) rfl dS_makeSmall_30 ?_
      refine lv_iload_n hx hb dS_makeSmall_33 rfl (lv_at hl 0 rfl) ?_
      refine lv_iload_n hx hb dS_makeSmall_34 rfl (lv_at hl 3 rfl) ?_
      replace h := fl_bd_some h
      obtain ⟨r10, g11, hc12, h⟩ := h
      refine fl_calli (va_runS (As := [.int a0]) (rest := [.int r6, .ref (ad 2)]) ⟨hx, hb, hml, hown, hts⟩ (cS_wordsOfClass l dC dI ca ad hI a0 hc12) (kS_wordsOfClass hts (hts _ gm_218) ⟨Nat.le_of_ble_eq_true rfl, Nat.le_of_ble_eq_true rfl⟩) (fl_preS hK hP hN) rfl rfl hl.1 rfl (lv_room (Nat.le_of_ble_eq_true rfl)) dS_makeSmall_35 ⟨Nat.le_refl 0, Nat.le_refl 0⟩) hS (fun H locs hP hS => ?_)
      replace h := fl_bd_some h
      obtain ⟨r13, g14, hc15, h⟩ := h
      refine fl_callv (va_runV (As := [.int r6, .int r10]) (rest := []) ⟨hx, hb, hml, hown, hts⟩ (cP_clear l dC dI ca ad hI r6 r10 hc15) (kP_clear hts (hts _ gm_300) ⟨Nat.le_of_ble_eq_true rfl, Nat.le_of_ble_eq_true rfl⟩) (fl_preV hK hP hN (mc_lt rfl (by decide)) (mc_sh2 rfl) rfl) rfl rfl hl.1 rfl (lv_room (Nat.le_of_ble_eq_true rfl)) dS_makeSmall_38 ⟨Nat.le_refl 0, Nat.le_refl 0⟩) hS (fun H locs hP hS => ?_)
      refine lv_aload_n hx hb dS_makeSmall_41 rfl (lv_at hl 2 rfl) ?_
      refine mc_get0 (v := .ref (ad 6)) hx hb hts mc_in0 hown hK hP (q := 0) rfl 2 (by decide) (hts _ gm_142) rfl dS_makeSmall_42 ?_
      refine lv_iload_n hx hb dS_makeSmall_45 rfl (lv_at hl 0 rfl) ?_
      refine lv_iload_n hx hb dS_makeSmall_46 rfl (lv_at hl 3 rfl) ?_
      replace h := fl_bd_some h
      obtain ⟨r16, g17, hc18, h⟩ := h
      refine fl_calli (va_runS (As := [.int a0]) (rest := [.int r6, .ref (ad 6)]) ⟨hx, hb, hml, hown, hts⟩ (cS_wordsOfClass l dC dI ca ad hI a0 hc18) (kS_wordsOfClass hts (hts _ gm_218) ⟨Nat.le_of_ble_eq_true rfl, Nat.le_of_ble_eq_true rfl⟩) (fl_preS hK hP hN) rfl rfl hl.1 rfl (lv_room (Nat.le_of_ble_eq_true rfl)) dS_makeSmall_47 ⟨Nat.le_refl 0, Nat.le_refl 0⟩) hS (fun H locs hP hS => ?_)
      replace h := fl_bd_some h
      obtain ⟨r19, g20, hc21, h⟩ := h
      refine fl_callv (va_runV (As := [.int r6, .int r16]) (rest := []) ⟨hx, hb, hml, hown, hts⟩ (cB_add l dC dI ca ad hI r6 r16 hc21) (kB_add hts (hts _ gm_206) ⟨Nat.le_of_ble_eq_true rfl, Nat.le_of_ble_eq_true rfl⟩) (fl_preV hK hP hN (mc_lt rfl (by decide)) (mc_sh3 rfl) rfl) rfl rfl hl.1 rfl (lv_room (Nat.le_of_ble_eq_true rfl)) dS_makeSmall_50 ⟨Nat.le_refl 0, Nat.le_refl 0⟩) hS (fun H locs hP hS => ?_)
      refine lv_iload_n hx hb dS_makeSmall_53 rfl (lv_at hl 0 rfl) ?_
      exact fl_iret hx hb hr hlocks hP hS h dS_makeSmall_54
  · replace h := fl_neg c5 h
    refine lv_aload_n hx hb dS_makeSmall_14 rfl (lv_at hl 1 rfl) ?_
    refine lv_iload_n hx hb dS_makeSmall_15 rfl (lv_at hl 2 rfl) ?_
    replace h := fl_bd_some h
    obtain ⟨r22, g23, hc24, h⟩ := h
    refine fl_callv (va_runV (As := [.int a0]) (rest := []) ⟨hx, hb, hml, hown, hts⟩ (cS_attachNext l dC dI ca ad hI a0 hc24) (kS_attachNext hts (hts _ gm_228) ⟨Nat.le_of_ble_eq_true rfl, Nat.le_of_ble_eq_true rfl⟩) (fl_preV hK hP hN (mc_lt rfl (by decide)) (mc_sh0 rfl) rfl) rfl rfl hl.1 rfl (lv_room (Nat.le_of_ble_eq_true rfl)) dS_makeSmall_16 ⟨Nat.le_refl 0, Nat.le_refl 0⟩) hS (fun H locs hP hS => ?_)
    refine lv_aload_n hx hb dS_makeSmall_19 rfl (lv_at hl 0 rfl) ?_
    replace h := fl_bd_some h
    obtain ⟨r25, g26, hc27, h⟩ := h
    refine fl_calli (va_runV (As := []) (rest := []) ⟨hx, hb, hml, hown, hts⟩ (cA_handOut l dC dI ca ad hI (23 + 2 * (Int32.toNatClampNeg a0)) hc27) (kA_handOut hts (hts _ gm_287) ⟨Nat.le_of_ble_eq_true rfl, Nat.le_of_ble_eq_true rfl⟩) (fl_preV hK hP hN (mc_lt (mc_kdB hi1.2) (by decide)) (mc_sh5 (mc_kdB hi1.2)) rfl) rfl rfl hl.1 rfl (lv_room (Nat.le_of_ble_eq_true rfl)) dS_makeSmall_20 ⟨Nat.le_refl 0, Nat.le_refl 0⟩) hS (fun H locs hP hS => ?_)
    refine lv_istore_n (lv' := [(3, .int r25), (2, .ref (ad (23 + 2 * (Int32.toNatClampNeg a0)))), (0, .ref (ad 0)), (1, .int a0)]) hx hb dS_makeSmall_23 rfl hl (by decide) rfl (fun ls hl => ?_)
    refine lv_iload_n hx hb dS_makeSmall_24 rfl (lv_at hl 0 rfl) ?_
    refine lv_iconst (v := (-1)) hx hb dS_makeSmall_25 (by decide) ?_
    refine lv_icmp_eq (tgt := 53) hx hb dS_makeSmall_26 (by decide) (fun c28 => ?_) (fun c28 => ?_)
    · replace h := fl_pos c28 h
      refine lv_iload_n hx hb dS_makeSmall_53 rfl (lv_at hl 0 rfl) ?_
      exact fl_iret hx hb hr hlocks hP hS h dS_makeSmall_54
    · replace h := fl_neg c28 h
      refine lv_aload_n hx hb dS_makeSmall_29 rfl (lv_at hl 2 rfl) ?_
      refine mc_get0 (v := .ref (ad 2)) hx hb hts mc_in0 hown hK hP (q := 0) rfl 1 (by decide) (hts _ gm_141) rfl dS_makeSmall_30 ?_
      refine lv_iload_n hx hb dS_makeSmall_33 rfl (lv_at hl 0 rfl) ?_
      refine lv_iload_n hx hb dS_makeSmall_34 rfl (lv_at hl 3 rfl) ?_
      replace h := fl_bd_some h
      obtain ⟨r29, g30, hc31, h⟩ := h
      refine fl_calli (va_runS (As := [.int a0]) (rest := [.int r25, .ref (ad 2)]) ⟨hx, hb, hml, hown, hts⟩ (cS_wordsOfClass l dC dI ca ad hI a0 hc31) (kS_wordsOfClass hts (hts _ gm_218) ⟨Nat.le_of_ble_eq_true rfl, Nat.le_of_ble_eq_true rfl⟩) (fl_preS hK hP hN) rfl rfl hl.1 rfl (lv_room (Nat.le_of_ble_eq_true rfl)) dS_makeSmall_35 ⟨Nat.le_refl 0, Nat.le_refl 0⟩) hS (fun H locs hP hS => ?_)
      replace h := fl_bd_some h
      obtain ⟨r32, g33, hc34, h⟩ := h
      refine fl_callv (va_runV (As := [.int r25, .int r29]) (rest := []) ⟨hx, hb, hml, hown, hts⟩ (cP_clear l dC dI ca ad hI r25 r29 hc34) (kP_clear hts (hts _ gm_300) ⟨Nat.le_of_ble_eq_true rfl, Nat.le_of_ble_eq_true rfl⟩) (fl_preV hK hP hN (mc_lt rfl (by decide)) (mc_sh2 rfl) rfl) rfl rfl hl.1 rfl (lv_room (Nat.le_of_ble_eq_true rfl)) dS_makeSmall_38 ⟨Nat.le_refl 0, Nat.le_refl 0⟩) hS (fun H locs hP hS => ?_)
      refine lv_aload_n hx hb dS_makeSmall_41 rfl (lv_at hl 2 rfl) ?_
      refine mc_get0 (v := .ref (ad 6)) hx hb hts mc_in0 hown hK hP (q := 0) rfl 2 (by decide) (hts _ gm_142) rfl dS_makeSmall_42 ?_
      refine lv_iload_n hx hb dS_makeSmall_45 rfl (lv_at hl 0 rfl) ?_
      refine lv_iload_n hx hb dS_makeSmall_46 rfl (lv_at hl 3 rfl) ?_
      replace h := fl_bd_some h
      obtain ⟨r35, g36, hc37, h⟩ := h
      refine fl_calli (va_runS (As := [.int a0]) (rest := [.int r25, .ref (ad 6)]) ⟨hx, hb, hml, hown, hts⟩ (cS_wordsOfClass l dC dI ca ad hI a0 hc37) (kS_wordsOfClass hts (hts _ gm_218) ⟨Nat.le_of_ble_eq_true rfl, Nat.le_of_ble_eq_true rfl⟩) (fl_preS hK hP hN) rfl rfl hl.1 rfl (lv_room (Nat.le_of_ble_eq_true rfl)) dS_makeSmall_47 ⟨Nat.le_refl 0, Nat.le_refl 0⟩) hS (fun H locs hP hS => ?_)
      replace h := fl_bd_some h
      obtain ⟨r38, g39, hc40, h⟩ := h
      refine fl_callv (va_runV (As := [.int r25, .int r35]) (rest := []) ⟨hx, hb, hml, hown, hts⟩ (cB_add l dC dI ca ad hI r25 r35 hc40) (kB_add hts (hts _ gm_206) ⟨Nat.le_of_ble_eq_true rfl, Nat.le_of_ble_eq_true rfl⟩) (fl_preV hK hP hN (mc_lt rfl (by decide)) (mc_sh3 rfl) rfl) rfl rfl hl.1 rfl (lv_room (Nat.le_of_ble_eq_true rfl)) dS_makeSmall_50 ⟨Nat.le_refl 0, Nat.le_refl 0⟩) hS (fun H locs hP hS => ?_)
      refine lv_iload_n hx hb dS_makeSmall_53 rfl (lv_at hl 0 rfl) ?_
      exact fl_iret hx hb hr hlocks hP hS h dS_makeSmall_54
def yS_malloc : MethodName := ⟨"MeshedSpans", "malloc", "(I)I"⟩
def wS_malloc : List Cond := .code yS_malloc prog_1_method_3_code 2 (some .int) :: gw
theorem kS_malloc {R : Room} {s : State} {args : Array Value} {own : String} {ix : Nat} (hts : ∀ w ∈ gw, w.before args s = true) (hl : (Cond.methodLink own ix yS_malloc).before args s = true) (hR : 6 + 1 ≤ R.frames ∧ 8 + (2 + 11) + 132 ≤ R.locals) : CallW R s args own "MeshedSpans" ix yS_malloc prog_1_method_3_code 2 (some .int) wS_malloc { frames := 6, cells := 0, slots := 0, locals := 132 } 0 0 1 := ⟨callB_of (rm := { frames := 6, cells := 0, slots := 0, locals := 132 }) 1 hts (gw_c (ct := .code yS_malloc prog_1_method_3_code 2 (some .int)) gm_176) rfl rfl rfl (hts _ gm_41) hl (by decide +kernel) hR, hts _ gm_174, hts _ gm_175⟩
theorem dS_malloc_0 : decode prog_1_method_3_code 0 = .ok (.iload_n 1, 1) := by decide +kernel
theorem dS_malloc_1 : decode prog_1_method_3_code 1 = .ok (.iconst 1, 1) := by decide +kernel
theorem dS_malloc_2 : decode prog_1_method_3_code 2 = .ok (.if_icmp .lt 9, 3) := by decide +kernel
theorem dS_malloc_5 : decode prog_1_method_3_code 5 = .ok (.iload_n 1, 1) := by decide +kernel
theorem dS_malloc_6 : decode prog_1_method_3_code 6 = .ok (.bipush 64, 2) := by decide +kernel
theorem dS_malloc_8 : decode prog_1_method_3_code 8 = .ok (.if_icmp .le 5, 3) := by decide +kernel
theorem dS_malloc_11 : decode prog_1_method_3_code 11 = .ok (.iconst (-1), 1) := by decide +kernel
theorem dS_malloc_12 : decode prog_1_method_3_code 12 = .ok (.ireturn, 1) := by decide +kernel
theorem dS_malloc_13 : decode prog_1_method_3_code 13 = .ok (.iload_n 1, 1) := by decide +kernel
theorem dS_malloc_14 : decode prog_1_method_3_code 14 = .ok (.bipush 8, 2) := by decide +kernel
theorem dS_malloc_16 : decode prog_1_method_3_code 16 = .ok (.if_icmp .le 17, 3) := by decide +kernel
theorem dS_malloc_19 : decode prog_1_method_3_code 19 = .ok (.aload_n 0, 1) := by decide +kernel
theorem dS_malloc_20 : decode prog_1_method_3_code 20 = .ok (.iload_n 1, 1) := by decide +kernel
theorem dS_malloc_21 : decode prog_1_method_3_code 21 = .ok (.bipush 16, 2) := by decide +kernel
theorem dS_malloc_23 : decode prog_1_method_3_code 23 = .ok (.iadd, 1) := by decide +kernel
theorem dS_malloc_24 : decode prog_1_method_3_code 24 = .ok (.iconst 1, 1) := by decide +kernel
theorem dS_malloc_25 : decode prog_1_method_3_code 25 = .ok (.isub, 1) := by decide +kernel
theorem dS_malloc_26 : decode prog_1_method_3_code 26 = .ok (.bipush 16, 2) := by decide +kernel
theorem dS_malloc_28 : decode prog_1_method_3_code 28 = .ok (.idiv, 1) := by decide +kernel
theorem dS_malloc_29 : decode prog_1_method_3_code 29 = .ok (.invokevirtual 60, 3) := by decide +kernel
theorem dS_malloc_32 : decode prog_1_method_3_code 32 = .ok (.ireturn, 1) := by decide +kernel
theorem dS_malloc_33 : decode prog_1_method_3_code 33 = .ok (.aload_n 0, 1) := by decide +kernel
theorem dS_malloc_34 : decode prog_1_method_3_code 34 = .ok (.iload_n 1, 1) := by decide +kernel
theorem dS_malloc_35 : decode prog_1_method_3_code 35 = .ok (.invokestatic 64, 3) := by decide +kernel
theorem dS_malloc_38 : decode prog_1_method_3_code 38 = .ok (.invokevirtual 67, 3) := by decide +kernel
theorem dS_malloc_41 : decode prog_1_method_3_code 41 = .ok (.ireturn, 1) := by decide +kernel
def fS_malloc (a0 : Int32) (g : fl_G) : Option (Int32 × fl_G) :=
  if a0 < 1 then (some ((-1), g)) else (if a0 ≤ 64 then (if a0 ≤ 8 then (fl_bd (fS_leastClassFor a0 g) (fun r4 g5 => fl_bd (fS_makeSmall r4 g5) (fun r7 g8 => some (r7, g8)))) else (fl_bd (fS_makeLarge (((a0 + 16) - 1) / 16) g) (fun r10 g11 => some (r10, g11)))) else (some ((-1), g)))
set_option maxHeartbeats 4000000 in
set_option maxRecDepth 100000 in
theorem cS_malloc (l : Launch) (dC : Nat → ClassId) (dI : Nat → Nat → Nat) (ca : Nat → ClassId) (ad : Nat → Nat) (hI : fl_inj 32 ad) (a0 : Int32) {g g1 : fl_G} {r : Int32} (h : fS_malloc a0 g = some (r, g1)) : Met l yS_malloc wS_malloc ({ frames := 6, cells := 0, slots := 0, locals := 132 }) (va_Pc [.ref (ad 0), .int a0] (fl_Pre (dC, dI) al_cl 32 (mc_sh ca ad) ad (mc_ty ca) mc_ns g)) (fl_QI (dC, dI) al_cl 32 (mc_sh ca ad) ad r g1) 0 0 (fl_A 32 ad) := by
  refine fl_of (cc := prog_1_method_3_code) (maxL := 2) (ret := (some .int)) (by decide) rfl (Nat.le_of_ble_eq_true rfl) ?_
  intro p e s m below meth c ls hx hb hr hml hts hown hlocks hP hK hN hl
  have hown : s.vm.findClass "MeshedSpans" = some m.cls := hown
  have hS : va_S (fl_A 32 ad) s.heap s.heap [] := va_S.rf
  have hl : lv_has ls 2 [(0, .ref (ad 0)), (1, .int a0)] := hl
  unfold fS_malloc at h
  refine lv_iload_n hx hb dS_malloc_0 rfl (lv_at hl 1 rfl) ?_
  refine lv_iconst (v := 1) hx hb dS_malloc_1 (by decide) ?_
  refine lv_icmp_lt (tgt := 11) hx hb dS_malloc_2 (by decide) (fun c1 => ?_) (fun c1 => ?_)
  · replace h := fl_pos c1 h
    refine lv_iconst (v := (-1)) hx hb dS_malloc_11 (by decide) ?_
    exact fl_iret hx hb hr hlocks hP hS h dS_malloc_12
  · replace h := fl_neg c1 h
    refine lv_iload_n hx hb dS_malloc_5 rfl (lv_at hl 1 rfl) ?_
    refine lv_bipush (v := 64) hx hb dS_malloc_6 (by decide) ?_
    refine lv_icmp_le (tgt := 13) hx hb dS_malloc_8 (by decide) (fun c2 => ?_) (fun c2 => ?_)
    · replace h := fl_pos c2 h
      refine lv_iload_n hx hb dS_malloc_13 rfl (lv_at hl 1 rfl) ?_
      refine lv_bipush (v := 8) hx hb dS_malloc_14 (by decide) ?_
      refine lv_icmp_le (tgt := 33) hx hb dS_malloc_16 (by decide) (fun c3 => ?_) (fun c3 => ?_)
      · replace h := fl_pos c3 h
        refine lv_aload_n hx hb dS_malloc_33 rfl (lv_at hl 0 rfl) ?_
        refine lv_iload_n hx hb dS_malloc_34 rfl (lv_at hl 1 rfl) ?_
        replace h := fl_bd_some h
        obtain ⟨r4, g5, hc6, h⟩ := h
        refine fl_calli (va_runS (As := [.int a0]) (rest := [.ref (ad 0)]) ⟨hx, hb, hml, hown, hts⟩ (cS_leastClassFor l dC dI ca ad hI a0 hc6) (kS_leastClassFor hts (hts _ gm_215) ⟨Nat.le_of_ble_eq_true rfl, Nat.le_of_ble_eq_true rfl⟩) (fl_preS hK hP hN) rfl rfl hl.1 rfl (lv_room (Nat.le_of_ble_eq_true rfl)) dS_malloc_35 ⟨Nat.le_refl 0, Nat.le_refl 0⟩) hS (fun H locs hP hS => ?_)
        replace h := fl_bd_some h
        obtain ⟨r7, g8, hc9, h⟩ := h
        refine fl_calli (va_runV (As := [.int r4]) (rest := []) ⟨hx, hb, hml, hown, hts⟩ (cS_makeSmall l dC dI ca ad hI r4 hc9) (kS_makeSmall hts (hts _ gm_221) ⟨Nat.le_of_ble_eq_true rfl, Nat.le_of_ble_eq_true rfl⟩) (fl_preV hK hP hN (mc_lt rfl (by decide)) (mc_sh0 rfl) rfl) rfl rfl hl.1 rfl (lv_room (Nat.le_of_ble_eq_true rfl)) dS_malloc_38 ⟨Nat.le_refl 0, Nat.le_refl 0⟩) hS (fun H locs hP hS => ?_)
        exact fl_iret hx hb hr hlocks hP hS h dS_malloc_41
      · replace h := fl_neg c3 h
        refine lv_aload_n hx hb dS_malloc_19 rfl (lv_at hl 0 rfl) ?_
        refine lv_iload_n hx hb dS_malloc_20 rfl (lv_at hl 1 rfl) ?_
        refine lv_bipush (v := 16) hx hb dS_malloc_21 (by decide) ?_
        refine lv_iadd hx hb dS_malloc_23 ?_
        refine lv_iconst (v := 1) hx hb dS_malloc_24 (by decide) ?_
        refine lv_isub hx hb dS_malloc_25 ?_
        refine lv_bipush (v := 16) hx hb dS_malloc_26 (by decide) ?_
        refine lv_idiv hx hb dS_malloc_28 (by decide) ?_
        replace h := fl_bd_some h
        obtain ⟨r10, g11, hc12, h⟩ := h
        refine fl_calli (va_runV (As := [.int (((a0 + 16) - 1) / 16)]) (rest := []) ⟨hx, hb, hml, hown, hts⟩ (cS_makeLarge l dC dI ca ad hI (((a0 + 16) - 1) / 16) hc12) (kS_makeLarge hts (hts _ gm_177) ⟨Nat.le_of_ble_eq_true rfl, Nat.le_of_ble_eq_true rfl⟩) (fl_preV hK hP hN (mc_lt rfl (by decide)) (mc_sh0 rfl) rfl) rfl rfl hl.1 rfl (lv_room (Nat.le_of_ble_eq_true rfl)) dS_malloc_29 ⟨Nat.le_refl 0, Nat.le_refl 0⟩) hS (fun H locs hP hS => ?_)
        exact fl_iret hx hb hr hlocks hP hS h dS_malloc_32
    · replace h := fl_neg c2 h
      refine lv_iconst (v := (-1)) hx hb dS_malloc_11 (by decide) ?_
      exact fl_iret hx hb hr hlocks hP hS h dS_malloc_12
def yS_giveBackCell : MethodName := ⟨"MeshedSpans", "giveBackCell", "(LMeshedSpans$Miniheap;I)V"⟩
def wS_giveBackCell : List Cond := .code yS_giveBackCell prog_1_method_32_code 4 none :: gw
theorem kS_giveBackCell {R : Room} {s : State} {args : Array Value} {own : String} {ix : Nat} (hts : ∀ w ∈ gw, w.before args s = true) (hl : (Cond.methodLink own ix yS_giveBackCell).before args s = true) (hR : 4 + 1 ≤ R.frames ∧ 8 + (4 + 11) + 85 ≤ R.locals) : CallW R s args own "MeshedSpans" ix yS_giveBackCell prog_1_method_32_code 4 none wS_giveBackCell { frames := 4, cells := 0, slots := 0, locals := 85 } 0 0 2 := ⟨callB_of (rm := { frames := 4, cells := 0, slots := 0, locals := 85 }) 2 hts (gw_c (ct := .code yS_giveBackCell prog_1_method_32_code 4 none) gm_348) rfl rfl rfl (hts _ gm_41) hl (by decide +kernel) hR, hts _ gm_347, hts _ gm_11⟩
theorem dS_giveBackCell_0 : decode prog_1_method_32_code 0 = .ok (.aload_n 1, 1) := by decide +kernel
theorem dS_giveBackCell_1 : decode prog_1_method_32_code 1 = .ok (.iload_n 2, 1) := by decide +kernel
theorem dS_giveBackCell_2 : decode prog_1_method_32_code 2 = .ok (.invokevirtual 207, 3) := by decide +kernel
theorem dS_giveBackCell_5 : decode prog_1_method_32_code 5 = .ok (.aload_n 0, 1) := by decide +kernel
theorem dS_giveBackCell_6 : decode prog_1_method_32_code 6 = .ok (.getfield 41, 3) := by decide +kernel
theorem dS_giveBackCell_9 : decode prog_1_method_32_code 9 = .ok (.aload_n 1, 1) := by decide +kernel
theorem dS_giveBackCell_10 : decode prog_1_method_32_code 10 = .ok (.getfield 210, 3) := by decide +kernel
theorem dS_giveBackCell_13 : decode prog_1_method_32_code 13 = .ok (.aaload, 1) := by decide +kernel
theorem dS_giveBackCell_14 : decode prog_1_method_32_code 14 = .ok (.astore_n 3, 1) := by decide +kernel
theorem dS_giveBackCell_15 : decode prog_1_method_32_code 15 = .ok (.aload_n 3, 1) := by decide +kernel
theorem dS_giveBackCell_16 : decode prog_1_method_32_code 16 = .ok (.getfield 136, 3) := by decide +kernel
theorem dS_giveBackCell_19 : decode prog_1_method_32_code 19 = .ok (.aload_n 1, 1) := by decide +kernel
theorem dS_giveBackCell_20 : decode prog_1_method_32_code 20 = .ok (.if_acmp .ne 15, 3) := by decide +kernel
theorem dS_giveBackCell_23 : decode prog_1_method_32_code 23 = .ok (.aload_n 3, 1) := by decide +kernel
theorem dS_giveBackCell_24 : decode prog_1_method_32_code 24 = .ok (.iload_n 2, 1) := by decide +kernel
theorem dS_giveBackCell_25 : decode prog_1_method_32_code 25 = .ok (.aload_n 0, 1) := by decide +kernel
theorem dS_giveBackCell_26 : decode prog_1_method_32_code 26 = .ok (.getfield 14, 3) := by decide +kernel
theorem dS_giveBackCell_29 : decode prog_1_method_32_code 29 = .ok (.invokevirtual 213, 3) := by decide +kernel
theorem dS_giveBackCell_32 : decode prog_1_method_32_code 32 = .ok (.goto 25, 3) := by decide +kernel
theorem dS_giveBackCell_35 : decode prog_1_method_32_code 35 = .ok (.aload_n 1, 1) := by decide +kernel
theorem dS_giveBackCell_36 : decode prog_1_method_32_code 36 = .ok (.invokevirtual 217, 3) := by decide +kernel
theorem dS_giveBackCell_39 : decode prog_1_method_32_code 39 = .ok (.ifCond .eq 18, 3) := by decide +kernel
theorem dS_giveBackCell_42 : decode prog_1_method_32_code 42 = .ok (.aload_n 0, 1) := by decide +kernel
theorem dS_giveBackCell_43 : decode prog_1_method_32_code 43 = .ok (.getfield 21, 3) := by decide +kernel
theorem dS_giveBackCell_46 : decode prog_1_method_32_code 46 = .ok (.aload_n 1, 1) := by decide +kernel
theorem dS_giveBackCell_47 : decode prog_1_method_32_code 47 = .ok (.getfield 220, 3) := by decide +kernel
theorem dS_giveBackCell_50 : decode prog_1_method_32_code 50 = .ok (.invokevirtual 223, 3) := by decide +kernel
theorem dS_giveBackCell_53 : decode prog_1_method_32_code 53 = .ok (.aload_n 1, 1) := by decide +kernel
theorem dS_giveBackCell_54 : decode prog_1_method_32_code 54 = .ok (.invokevirtual 226, 3) := by decide +kernel
theorem dS_giveBackCell_57 : decode prog_1_method_32_code 57 = .ok (.return_, 1) := by decide +kernel
def fS_giveBackCell (a0 : Nat) (a1 : Int32) (g : fl_G) : Option (Unit × fl_G) :=
  fl_ck (mc_kd a0 = 4) (fl_bd (fM_setFree a0 a1 g) (fun r2 g3 => fl_ck (fl_in (g3 a0 2) 4) (fl_lt (fl_rf (g3 (23 + 2 * (Int32.toNatClampNeg (g3 a0 2))) 0)) (fun o6 => fl_ck (fl_ob 32 o6 = true) (fl_ck (fl_ob 32 (some a0) = true) (if o6 = (some a0) then (fl_bd (fA_putBack (23 + 2 * (Int32.toNatClampNeg (g3 a0 2))) a1 g3) (fun r21 g22 => some ((), g22))) else (fl_bd (fM_isEmpty a0 g3) (fun r11 g12 => if r11 = 0 then (some ((), g12)) else (fl_bd (fP_unmapAllOf (Int32.ofNat (a0 - 10)) g12) (fun r15 g16 => fl_bd (fM_end a0 g16) (fun r18 g19 => some ((), g19))))))))))))
set_option maxHeartbeats 4000000 in
set_option maxRecDepth 100000 in
theorem cS_giveBackCell (l : Launch) (dC : Nat → ClassId) (dI : Nat → Nat → Nat) (ca : Nat → ClassId) (ad : Nat → Nat) (hI : fl_inj 32 ad) (a0 : Nat) (a1 : Int32) {g g1 : fl_G} {r : Unit} (h : fS_giveBackCell a0 a1 g = some (r, g1)) : Met l yS_giveBackCell wS_giveBackCell ({ frames := 4, cells := 0, slots := 0, locals := 85 }) (va_Pc [.ref (ad 0), .ref (ad a0), .int a1] (fl_Pre (dC, dI) al_cl 32 (mc_sh ca ad) ad (mc_ty ca) mc_ns g)) (fl_QV (dC, dI) al_cl 32 (mc_sh ca ad) ad g1) 0 0 (fl_A 32 ad) := by
  refine fl_of (cc := prog_1_method_32_code) (maxL := 4) (ret := none) (by decide) rfl (Nat.le_of_ble_eq_true rfl) ?_
  intro p e s m below meth c ls hx hb hr hml hts hown hlocks hP hK hN hl
  have hown : s.vm.findClass "MeshedSpans" = some m.cls := hown
  have hS : va_S (fl_A 32 ad) s.heap s.heap [] := va_S.rf
  have hl : lv_has ls 4 [(0, .ref (ad 0)), (1, .ref (ad a0)), (2, .int a1)] := hl
  unfold fS_giveBackCell at h
  refine lv_aload_n hx hb dS_giveBackCell_0 rfl (lv_at hl 1 rfl) ?_
  refine lv_iload_n hx hb dS_giveBackCell_1 rfl (lv_at hl 2 rfl) ?_
  replace h := fl_ck_some h
  obtain ⟨hk1, h⟩ := h
  replace h := fl_bd_some h
  obtain ⟨r2, g3, hc4, h⟩ := h
  refine fl_callv (va_runV (As := [.int a1]) (rest := []) ⟨hx, hb, hml, hown, hts⟩ (cM_setFree l dC dI ca ad hI a0 a1 hc4) (kM_setFree hts (hts _ gm_349) ⟨Nat.le_of_ble_eq_true rfl, Nat.le_of_ble_eq_true rfl⟩) (fl_preV hK hP hN (mc_lt hk1 (by decide)) (mc_sh4 hk1) rfl) rfl rfl hl.1 rfl (lv_room (Nat.le_of_ble_eq_true rfl)) dS_giveBackCell_2 ⟨Nat.le_refl 0, Nat.le_refl 0⟩) hS (fun H locs hP hS => ?_)
  refine lv_aload_n hx hb dS_giveBackCell_5 rfl (lv_at hl 0 rfl) ?_
  refine mc_get0 (v := .ref (ad 22)) hx hb hts mc_in0 hown hK hP (q := 0) rfl 4 (by decide) (hts _ gm_144) rfl dS_giveBackCell_6 ?_
  refine lv_aload_n hx hb dS_giveBackCell_9 rfl (lv_at hl 1 rfl) ?_
  refine mc_getN4 (v := .int (g3 a0 2)) hx hb hts mc_in4 hown hK hP (q := a0) hk1 2 (by decide) (hN.use _ nm_3) rfl dS_giveBackCell_10 ?_
  replace h := fl_ck_some h
  obtain ⟨hi5, h⟩ := h
  refine mc_aald13 hx hb hK hP hi5 dS_giveBackCell_13 ?_
  refine lv_astore_n (lv' := [(3, .ref (ad (23 + 2 * (Int32.toNatClampNeg (g3 a0 2))))), (0, .ref (ad 0)), (1, .ref (ad a0)), (2, .int a1)]) hx hb dS_giveBackCell_14 rfl hl (by decide) rfl (fun ls hl => ?_)
  refine lv_aload_n hx hb dS_giveBackCell_15 rfl (lv_at hl 0 rfl) ?_
  refine mc_getN5 (v := va_rf (Option.map ad (fl_rf (g3 (23 + 2 * (Int32.toNatClampNeg (g3 a0 2))) 0)))) hx hb hts mc_in5 hown hK hP (q := (23 + 2 * (Int32.toNatClampNeg (g3 a0 2)))) (mc_kdB hi5.2) 0 (by decide) (hN.use _ nm_4) rfl dS_giveBackCell_16 ?_
  replace h := fl_lt_some h
  obtain ⟨o6, ho7, h⟩ := h
  rw [← ho7]
  refine lv_aload_n hx hb dS_giveBackCell_19 rfl (lv_at hl 2 rfl) ?_
  replace h := fl_ck_some h
  obtain ⟨hb8, h⟩ := h
  replace h := fl_ck_some h
  obtain ⟨hb9, h⟩ := h
  refine fl_acmp_ne (rx := o6) (ry := (some a0)) (tgt := 35) hI hb8 hb9 hx hb dS_giveBackCell_20 (by decide) (fun c10 => ?_) (fun c10 => ?_)
  · replace h := fl_neg c10 h
    refine lv_aload_n hx hb dS_giveBackCell_35 rfl (lv_at hl 2 rfl) ?_
    replace h := fl_bd_some h
    obtain ⟨r11, g12, hc13, h⟩ := h
    refine fl_calli (va_runV (As := []) (rest := []) ⟨hx, hb, hml, hown, hts⟩ (cM_isEmpty l dC dI ca ad hI a0 hc13) (kM_isEmpty hts (hts _ gm_359) ⟨Nat.le_of_ble_eq_true rfl, Nat.le_of_ble_eq_true rfl⟩) (fl_preV hK hP hN (mc_lt hk1 (by decide)) (mc_sh4 hk1) rfl) rfl rfl hl.1 rfl (lv_room (Nat.le_of_ble_eq_true rfl)) dS_giveBackCell_36 ⟨Nat.le_refl 0, Nat.le_refl 0⟩) hS (fun H locs hP hS => ?_)
    refine lv_if_eq (tgt := 57) hx hb dS_giveBackCell_39 (by decide) (fun c14 => ?_) (fun c14 => ?_)
    · replace h := fl_pos c14 h
      exact fl_vret hx hb hr hlocks hP hS h dS_giveBackCell_57
    · replace h := fl_neg c14 h
      refine lv_aload_n hx hb dS_giveBackCell_42 rfl (lv_at hl 1 rfl) ?_
      refine mc_get0 (v := .ref (ad 2)) hx hb hts mc_in0 hown hK hP (q := 0) rfl 1 (by decide) (hts _ gm_141) rfl dS_giveBackCell_43 ?_
      refine lv_aload_n hx hb dS_giveBackCell_46 rfl (lv_at hl 2 rfl) ?_
      refine mc_getN4 (v := .int (Int32.ofNat (a0 - 10))) hx hb hts mc_in4 hown hK hP (q := a0) hk1 0 (by decide) (hN.use _ nm_0) rfl dS_giveBackCell_47 ?_
      replace h := fl_bd_some h
      obtain ⟨r15, g16, hc17, h⟩ := h
      refine fl_callv (va_runV (As := [.int (Int32.ofNat (a0 - 10))]) (rest := []) ⟨hx, hb, hml, hown, hts⟩ (cP_unmapAllOf l dC dI ca ad hI (Int32.ofNat (a0 - 10)) hc17) (kP_unmapAllOf hts (hts _ gm_363) ⟨Nat.le_of_ble_eq_true rfl, Nat.le_of_ble_eq_true rfl⟩) (fl_preV hK hP hN (mc_lt rfl (by decide)) (mc_sh2 rfl) rfl) rfl rfl hl.1 rfl (lv_room (Nat.le_of_ble_eq_true rfl)) dS_giveBackCell_50 ⟨Nat.le_refl 0, Nat.le_refl 0⟩) hS (fun H locs hP hS => ?_)
      refine lv_aload_n hx hb dS_giveBackCell_53 rfl (lv_at hl 2 rfl) ?_
      replace h := fl_bd_some h
      obtain ⟨r18, g19, hc20, h⟩ := h
      refine fl_callv (va_runV (As := []) (rest := []) ⟨hx, hb, hml, hown, hts⟩ (cM_end l dC dI ca ad hI a0 hc20) (kM_end hts (hts _ gm_368) ⟨Nat.le_of_ble_eq_true rfl, Nat.le_of_ble_eq_true rfl⟩) (fl_preV hK hP hN (mc_lt hk1 (by decide)) (mc_sh4 hk1) rfl) rfl rfl hl.1 rfl (lv_room (Nat.le_of_ble_eq_true rfl)) dS_giveBackCell_54 ⟨Nat.le_refl 0, Nat.le_refl 0⟩) hS (fun H locs hP hS => ?_)
      exact fl_vret hx hb hr hlocks hP hS h dS_giveBackCell_57
  · replace h := fl_pos c10 h
    refine lv_aload_n hx hb dS_giveBackCell_23 rfl (lv_at hl 0 rfl) ?_
    refine lv_iload_n hx hb dS_giveBackCell_24 rfl (lv_at hl 3 rfl) ?_
    refine lv_aload_n hx hb dS_giveBackCell_25 rfl (lv_at hl 1 rfl) ?_
    refine mc_get0 (v := .ref (ad 1)) hx hb hts mc_in0 hown hK hP (q := 0) rfl 0 (by decide) (hts _ gm_140) rfl dS_giveBackCell_26 ?_
    replace h := fl_bd_some h
    obtain ⟨r21, g22, hc23, h⟩ := h
    refine fl_callv (va_runV (As := [.int a1, .ref (ad 1)]) (rest := []) ⟨hx, hb, hml, hown, hts⟩ (cA_putBack l dC dI ca ad hI (23 + 2 * (Int32.toNatClampNeg (g3 a0 2))) a1 hc23) (kA_putBack hts (hts _ gm_353) ⟨Nat.le_of_ble_eq_true rfl, Nat.le_of_ble_eq_true rfl⟩) (fl_preV hK hP hN (mc_lt (mc_kdB hi5.2) (by decide)) (mc_sh5 (mc_kdB hi5.2)) rfl) rfl rfl hl.1 rfl (lv_room (Nat.le_of_ble_eq_true rfl)) dS_giveBackCell_29 ⟨Nat.le_refl 0, Nat.le_refl 0⟩) hS (fun H locs hP hS => ?_)
    refine lv_goto (tgt := 57) hx hb dS_giveBackCell_32 (by decide) ?_
    exact fl_vret hx hb hr hlocks hP hS h dS_giveBackCell_57
def yS_free : MethodName := ⟨"MeshedSpans", "free", "(I)Z"⟩
def wS_free : List Cond := .code yS_free prog_1_method_4_code 3 (some .boolean) :: gw
theorem kS_free {R : Room} {s : State} {args : Array Value} {own : String} {ix : Nat} (hts : ∀ w ∈ gw, w.before args s = true) (hl : (Cond.methodLink own ix yS_free).before args s = true) (hR : 5 + 1 ≤ R.frames ∧ 8 + (3 + 11) + 108 ≤ R.locals) : CallW R s args own "MeshedSpans" ix yS_free prog_1_method_4_code 3 (some .boolean) wS_free { frames := 5, cells := 0, slots := 0, locals := 108 } 0 0 1 := ⟨callB_of (rm := { frames := 5, cells := 0, slots := 0, locals := 108 }) 1 hts (gw_c (ct := .code yS_free prog_1_method_4_code 3 (some .boolean)) gm_310) rfl rfl rfl (hts _ gm_41) hl (by decide +kernel) hR, hts _ gm_308, hts _ gm_309⟩
theorem dS_free_0 : decode prog_1_method_4_code 0 = .ok (.aload_n 0, 1) := by decide +kernel
theorem dS_free_1 : decode prog_1_method_4_code 1 = .ok (.getfield 28, 3) := by decide +kernel
theorem dS_free_4 : decode prog_1_method_4_code 4 = .ok (.iload_n 1, 1) := by decide +kernel
theorem dS_free_5 : decode prog_1_method_4_code 5 = .ok (.invokevirtual 70, 3) := by decide +kernel
theorem dS_free_8 : decode prog_1_method_4_code 8 = .ok (.ifCond .ne 5, 3) := by decide +kernel
theorem dS_free_11 : decode prog_1_method_4_code 11 = .ok (.iconst 0, 1) := by decide +kernel
theorem dS_free_12 : decode prog_1_method_4_code 12 = .ok (.ireturn, 1) := by decide +kernel
theorem dS_free_13 : decode prog_1_method_4_code 13 = .ok (.aload_n 0, 1) := by decide +kernel
theorem dS_free_14 : decode prog_1_method_4_code 14 = .ok (.iload_n 1, 1) := by decide +kernel
theorem dS_free_15 : decode prog_1_method_4_code 15 = .ok (.invokevirtual 74, 3) := by decide +kernel
theorem dS_free_18 : decode prog_1_method_4_code 18 = .ok (.astore_n 2, 1) := by decide +kernel
theorem dS_free_19 : decode prog_1_method_4_code 19 = .ok (.aload_n 2, 1) := by decide +kernel
theorem dS_free_20 : decode prog_1_method_4_code 20 = .ok (.ifnonnull 11, 3) := by decide +kernel
theorem dS_free_23 : decode prog_1_method_4_code 23 = .ok (.aload_n 0, 1) := by decide +kernel
theorem dS_free_24 : decode prog_1_method_4_code 24 = .ok (.iload_n 1, 1) := by decide +kernel
theorem dS_free_25 : decode prog_1_method_4_code 25 = .ok (.invokevirtual 78, 3) := by decide +kernel
theorem dS_free_28 : decode prog_1_method_4_code 28 = .ok (.goto 13, 3) := by decide +kernel
theorem dS_free_31 : decode prog_1_method_4_code 31 = .ok (.aload_n 0, 1) := by decide +kernel
theorem dS_free_32 : decode prog_1_method_4_code 32 = .ok (.aload_n 2, 1) := by decide +kernel
theorem dS_free_33 : decode prog_1_method_4_code 33 = .ok (.aload_n 2, 1) := by decide +kernel
theorem dS_free_34 : decode prog_1_method_4_code 34 = .ok (.iload_n 1, 1) := by decide +kernel
theorem dS_free_35 : decode prog_1_method_4_code 35 = .ok (.invokevirtual 81, 3) := by decide +kernel
theorem dS_free_38 : decode prog_1_method_4_code 38 = .ok (.invokevirtual 84, 3) := by decide +kernel
theorem dS_free_41 : decode prog_1_method_4_code 41 = .ok (.aload_n 0, 1) := by decide +kernel
theorem dS_free_42 : decode prog_1_method_4_code 42 = .ok (.getfield 28, 3) := by decide +kernel
theorem dS_free_45 : decode prog_1_method_4_code 45 = .ok (.iload_n 1, 1) := by decide +kernel
theorem dS_free_46 : decode prog_1_method_4_code 46 = .ok (.invokevirtual 88, 3) := by decide +kernel
theorem dS_free_49 : decode prog_1_method_4_code 49 = .ok (.iconst 1, 1) := by decide +kernel
theorem dS_free_50 : decode prog_1_method_4_code 50 = .ok (.ireturn, 1) := by decide +kernel
def fS_free (a0 : Int32) (g : fl_G) : Option (Int32 × fl_G) :=
  fl_bd (fB_beginsAt a0 g) (fun r1 g2 => if r1 = 0 then (some (0, g2)) else (fl_bd (fS_miniheapBehind a0 g2) (fun r5 g6 => fl_cs r5 (fl_bd (fS_closeLarge a0 g6) (fun r9 g10 => fl_bd (fB_remove a0 g10) (fun r12 g13 => some (1, g13)))) (fun q8 => fl_ck (mc_kd q8 = 4) (fl_bd (fM_cellAt q8 a0 g6) (fun r16 g17 => fl_bd (fS_giveBackCell q8 r16 g17) (fun r19 g20 => fl_bd (fB_remove a0 g20) (fun r22 g23 => some (1, g23)))))))))
set_option maxHeartbeats 4000000 in
set_option maxRecDepth 100000 in
theorem cS_free (l : Launch) (dC : Nat → ClassId) (dI : Nat → Nat → Nat) (ca : Nat → ClassId) (ad : Nat → Nat) (hI : fl_inj 32 ad) (a0 : Int32) {g g1 : fl_G} {r : Int32} (h : fS_free a0 g = some (r, g1)) : Met l yS_free wS_free ({ frames := 5, cells := 0, slots := 0, locals := 108 }) (va_Pc [.ref (ad 0), .int a0] (fl_Pre (dC, dI) al_cl 32 (mc_sh ca ad) ad (mc_ty ca) mc_ns g)) (fl_QI (dC, dI) al_cl 32 (mc_sh ca ad) ad r g1) 0 0 (fl_A 32 ad) := by
  refine fl_of (cc := prog_1_method_4_code) (maxL := 3) (ret := (some .boolean)) (by decide) rfl (Nat.le_of_ble_eq_true rfl) ?_
  intro p e s m below meth c ls hx hb hr hml hts hown hlocks hP hK hN hl
  have hown : s.vm.findClass "MeshedSpans" = some m.cls := hown
  have hS : va_S (fl_A 32 ad) s.heap s.heap [] := va_S.rf
  have hl : lv_has ls 3 [(0, .ref (ad 0)), (1, .int a0)] := hl
  unfold fS_free at h
  refine lv_aload_n hx hb dS_free_0 rfl (lv_at hl 0 rfl) ?_
  refine mc_get0 (v := .ref (ad 6)) hx hb hts mc_in0 hown hK hP (q := 0) rfl 2 (by decide) (hts _ gm_142) rfl dS_free_1 ?_
  refine lv_iload_n hx hb dS_free_4 rfl (lv_at hl 1 rfl) ?_
  replace h := fl_bd_some h
  obtain ⟨r1, g2, hc3, h⟩ := h
  refine fl_calli (va_runV (As := [.int a0]) (rest := []) ⟨hx, hb, hml, hown, hts⟩ (cB_beginsAt l dC dI ca ad hI a0 hc3) (kB_beginsAt hts (hts _ gm_311) ⟨Nat.le_of_ble_eq_true rfl, Nat.le_of_ble_eq_true rfl⟩) (fl_preV hK hP hN (mc_lt rfl (by decide)) (mc_sh3 rfl) rfl) rfl rfl hl.1 rfl (lv_room (Nat.le_of_ble_eq_true rfl)) dS_free_5 ⟨Nat.le_refl 0, Nat.le_refl 0⟩) hS (fun H locs hP hS => ?_)
  refine lv_if_ne (tgt := 13) hx hb dS_free_8 (by decide) (fun c4 => ?_) (fun c4 => ?_)
  · replace h := fl_neg c4 h
    refine lv_aload_n hx hb dS_free_13 rfl (lv_at hl 0 rfl) ?_
    refine lv_iload_n hx hb dS_free_14 rfl (lv_at hl 1 rfl) ?_
    replace h := fl_bd_some h
    obtain ⟨r5, g6, hc7, h⟩ := h
    refine fl_callq (va_runV (As := [.int a0]) (rest := []) ⟨hx, hb, hml, hown, hts⟩ (cS_miniheapBehind l dC dI ca ad hI a0 hc7) (kS_miniheapBehind hts (hts _ gm_319) ⟨Nat.le_of_ble_eq_true rfl, Nat.le_of_ble_eq_true rfl⟩) (fl_preV hK hP hN (mc_lt rfl (by decide)) (mc_sh0 rfl) rfl) rfl rfl hl.1 rfl (lv_room (Nat.le_of_ble_eq_true rfl)) dS_free_15 ⟨Nat.le_refl 0, Nat.le_refl 0⟩) hS (fun H locs hP hS => ?_)
    refine fl_astoreq_n (lv' := [(2, va_rf (Option.map ad r5)), (0, .ref (ad 0)), (1, .int a0)]) hx hb dS_free_18 rfl hl (by decide) rfl (fun ls hl => ?_)
    refine fl_aloadq_n hx hb dS_free_19 rfl (lv_at hl 0 rfl) ?_
    rcases r5 with _ | q8
    · replace h := fl_cs_none h
      refine lv_ifnonnullN hx hb dS_free_20 ?_
      refine lv_aload_n hx hb dS_free_23 rfl (lv_at hl 1 rfl) ?_
      refine lv_iload_n hx hb dS_free_24 rfl (lv_at hl 2 rfl) ?_
      replace h := fl_bd_some h
      obtain ⟨r9, g10, hc11, h⟩ := h
      refine fl_callv (va_runV (As := [.int a0]) (rest := []) ⟨hx, hb, hml, hown, hts⟩ (cS_closeLarge l dC dI ca ad hI a0 hc11) (kS_closeLarge hts (hts _ gm_333) ⟨Nat.le_of_ble_eq_true rfl, Nat.le_of_ble_eq_true rfl⟩) (fl_preV hK hP hN (mc_lt rfl (by decide)) (mc_sh0 rfl) rfl) rfl rfl hl.1 rfl (lv_room (Nat.le_of_ble_eq_true rfl)) dS_free_25 ⟨Nat.le_refl 0, Nat.le_refl 0⟩) hS (fun H locs hP hS => ?_)
      refine lv_goto (tgt := 41) hx hb dS_free_28 (by decide) ?_
      refine lv_aload_n hx hb dS_free_41 rfl (lv_at hl 1 rfl) ?_
      refine mc_get0 (v := .ref (ad 6)) hx hb hts mc_in0 hown hK hP (q := 0) rfl 2 (by decide) (hts _ gm_142) rfl dS_free_42 ?_
      refine lv_iload_n hx hb dS_free_45 rfl (lv_at hl 2 rfl) ?_
      replace h := fl_bd_some h
      obtain ⟨r12, g13, hc14, h⟩ := h
      refine fl_callv (va_runV (As := [.int a0]) (rest := []) ⟨hx, hb, hml, hown, hts⟩ (cB_remove l dC dI ca ad hI a0 hc14) (kB_remove hts (hts _ gm_372) ⟨Nat.le_of_ble_eq_true rfl, Nat.le_of_ble_eq_true rfl⟩) (fl_preV hK hP hN (mc_lt rfl (by decide)) (mc_sh3 rfl) rfl) rfl rfl hl.1 rfl (lv_room (Nat.le_of_ble_eq_true rfl)) dS_free_46 ⟨Nat.le_refl 0, Nat.le_refl 0⟩) hS (fun H locs hP hS => ?_)
      refine lv_iconst (v := 1) hx hb dS_free_49 (by decide) ?_
      exact fl_zret hx hb hr hlocks hP hS (Or.inr rfl) h dS_free_50
    · replace h := fl_cs_some h
      refine lv_ifnonnull (tgt := 31) hx hb dS_free_20 (by decide) ?_
      refine lv_aload_n hx hb dS_free_31 rfl (lv_at hl 1 rfl) ?_
      refine lv_aload_n hx hb dS_free_32 rfl (lv_at hl 0 rfl) ?_
      refine lv_aload_n hx hb dS_free_33 rfl (lv_at hl 0 rfl) ?_
      refine lv_iload_n hx hb dS_free_34 rfl (lv_at hl 2 rfl) ?_
      replace h := fl_ck_some h
      obtain ⟨hk15, h⟩ := h
      replace h := fl_bd_some h
      obtain ⟨r16, g17, hc18, h⟩ := h
      refine fl_calli (va_runV (As := [.int a0]) (rest := [.ref (ad q8), .ref (ad 0)]) ⟨hx, hb, hml, hown, hts⟩ (cM_cellAt l dC dI ca ad hI q8 a0 hc18) (kM_cellAt hts (hts _ gm_342) ⟨Nat.le_of_ble_eq_true rfl, Nat.le_of_ble_eq_true rfl⟩) (fl_preV hK hP hN (mc_lt hk15 (by decide)) (mc_sh4 hk15) rfl) rfl rfl hl.1 rfl (lv_room (Nat.le_of_ble_eq_true rfl)) dS_free_35 ⟨Nat.le_refl 0, Nat.le_refl 0⟩) hS (fun H locs hP hS => ?_)
      replace h := fl_bd_some h
      obtain ⟨r19, g20, hc21, h⟩ := h
      refine fl_callv (va_runV (As := [.ref (ad q8), .int r16]) (rest := []) ⟨hx, hb, hml, hown, hts⟩ (cS_giveBackCell l dC dI ca ad hI q8 r16 hc21) (kS_giveBackCell hts (hts _ gm_346) ⟨Nat.le_of_ble_eq_true rfl, Nat.le_of_ble_eq_true rfl⟩) (fl_preV hK hP hN (mc_lt rfl (by decide)) (mc_sh0 rfl) rfl) rfl rfl hl.1 rfl (lv_room (Nat.le_of_ble_eq_true rfl)) dS_free_38 ⟨Nat.le_refl 0, Nat.le_refl 0⟩) hS (fun H locs hP hS => ?_)
      refine lv_aload_n hx hb dS_free_41 rfl (lv_at hl 1 rfl) ?_
      refine mc_get0 (v := .ref (ad 6)) hx hb hts mc_in0 hown hK hP (q := 0) rfl 2 (by decide) (hts _ gm_142) rfl dS_free_42 ?_
      refine lv_iload_n hx hb dS_free_45 rfl (lv_at hl 2 rfl) ?_
      replace h := fl_bd_some h
      obtain ⟨r22, g23, hc24, h⟩ := h
      refine fl_callv (va_runV (As := [.int a0]) (rest := []) ⟨hx, hb, hml, hown, hts⟩ (cB_remove l dC dI ca ad hI a0 hc24) (kB_remove hts (hts _ gm_372) ⟨Nat.le_of_ble_eq_true rfl, Nat.le_of_ble_eq_true rfl⟩) (fl_preV hK hP hN (mc_lt rfl (by decide)) (mc_sh3 rfl) rfl) rfl rfl hl.1 rfl (lv_room (Nat.le_of_ble_eq_true rfl)) dS_free_46 ⟨Nat.le_refl 0, Nat.le_refl 0⟩) hS (fun H locs hP hS => ?_)
      refine lv_iconst (v := 1) hx hb dS_free_49 (by decide) ?_
      exact fl_zret hx hb hr hlocks hP hS (Or.inr rfl) h dS_free_50
  · replace h := fl_pos c4 h
    refine lv_iconst (v := 0) hx hb dS_free_11 (by decide) ?_
    exact fl_zret hx hb hr hlocks hP hS (Or.inl rfl) h dS_free_12
def yS_isMeshable : MethodName := ⟨"MeshedSpans", "isMeshable", "(LMeshedSpans$Miniheap;I)Z"⟩
def wS_isMeshable : List Cond := .code yS_isMeshable prog_1_method_34_code 3 (some .boolean) :: gw
theorem kS_isMeshable {R : Room} {s : State} {args : Array Value} {own : String} {ix : Nat} (hts : ∀ w ∈ gw, w.before args s = true) (hl : (Cond.methodLink own ix yS_isMeshable).before args s = true) (hR : 3 + 1 ≤ R.frames ∧ 8 + (3 + 11) + 60 ≤ R.locals) : CallW R s args own "MeshedSpans" ix yS_isMeshable prog_1_method_34_code 3 (some .boolean) wS_isMeshable { frames := 3, cells := 0, slots := 0, locals := 60 } 0 0 2 := ⟨callB_of (rm := { frames := 3, cells := 0, slots := 0, locals := 60 }) 2 hts (gw_c (ct := .code yS_isMeshable prog_1_method_34_code 3 (some .boolean)) gm_408) rfl rfl rfl (hts _ gm_41) hl (by decide +kernel) hR, hts _ gm_407, hts _ gm_13⟩
theorem dS_isMeshable_0 : decode prog_1_method_34_code 0 = .ok (.aload_n 1, 1) := by decide +kernel
theorem dS_isMeshable_1 : decode prog_1_method_34_code 1 = .ok (.iload_n 2, 1) := by decide +kernel
theorem dS_isMeshable_2 : decode prog_1_method_34_code 2 = .ok (.invokevirtual 133, 3) := by decide +kernel
theorem dS_isMeshable_5 : decode prog_1_method_34_code 5 = .ok (.ifCond .eq 34, 3) := by decide +kernel
theorem dS_isMeshable_8 : decode prog_1_method_34_code 8 = .ok (.aload_n 0, 1) := by decide +kernel
theorem dS_isMeshable_9 : decode prog_1_method_34_code 9 = .ok (.getfield 41, 3) := by decide +kernel
theorem dS_isMeshable_12 : decode prog_1_method_34_code 12 = .ok (.iload_n 2, 1) := by decide +kernel
theorem dS_isMeshable_13 : decode prog_1_method_34_code 13 = .ok (.aaload, 1) := by decide +kernel
theorem dS_isMeshable_14 : decode prog_1_method_34_code 14 = .ok (.getfield 136, 3) := by decide +kernel
theorem dS_isMeshable_17 : decode prog_1_method_34_code 17 = .ok (.aload_n 1, 1) := by decide +kernel
theorem dS_isMeshable_18 : decode prog_1_method_34_code 18 = .ok (.if_acmp .eq 21, 3) := by decide +kernel
theorem dS_isMeshable_21 : decode prog_1_method_34_code 21 = .ok (.aload_n 1, 1) := by decide +kernel
theorem dS_isMeshable_22 : decode prog_1_method_34_code 22 = .ok (.invokevirtual 217, 3) := by decide +kernel
theorem dS_isMeshable_25 : decode prog_1_method_34_code 25 = .ok (.ifCond .ne 14, 3) := by decide +kernel
theorem dS_isMeshable_28 : decode prog_1_method_34_code 28 = .ok (.aload_n 1, 1) := by decide +kernel
theorem dS_isMeshable_29 : decode prog_1_method_34_code 29 = .ok (.invokevirtual 196, 3) := by decide +kernel
theorem dS_isMeshable_32 : decode prog_1_method_34_code 32 = .ok (.ifCond .ne 7, 3) := by decide +kernel
theorem dS_isMeshable_35 : decode prog_1_method_34_code 35 = .ok (.iconst 1, 1) := by decide +kernel
theorem dS_isMeshable_36 : decode prog_1_method_34_code 36 = .ok (.goto 4, 3) := by decide +kernel
theorem dS_isMeshable_39 : decode prog_1_method_34_code 39 = .ok (.iconst 0, 1) := by decide +kernel
theorem dS_isMeshable_40 : decode prog_1_method_34_code 40 = .ok (.ireturn, 1) := by decide +kernel
def fS_isMeshable (a0 : Nat) (a1 : Int32) (g : fl_G) : Option (Int32 × fl_G) :=
  fl_ck (mc_kd a0 = 4) (fl_bd (fM_isOf a0 a1 g) (fun r2 g3 => if r2 = 0 then (some (0, g3)) else (fl_ck (fl_in a1 4) (fl_lt (fl_rf (g3 (23 + 2 * (Int32.toNatClampNeg a1)) 0)) (fun o7 => fl_ck (fl_ob 32 o7 = true) (fl_ck (fl_ob 32 (some a0) = true) (if o7 = (some a0) then (some (0, g3)) else (fl_bd (fM_isEmpty a0 g3) (fun r12 g13 => if r12 = 0 then (fl_bd (fM_isFull a0 g13) (fun r16 g17 => if r16 = 0 then (some (1, g17)) else (some (0, g17)))) else (some (0, g13)))))))))))
set_option maxHeartbeats 4000000 in
set_option maxRecDepth 100000 in
theorem cS_isMeshable (l : Launch) (dC : Nat → ClassId) (dI : Nat → Nat → Nat) (ca : Nat → ClassId) (ad : Nat → Nat) (hI : fl_inj 32 ad) (a0 : Nat) (a1 : Int32) {g g1 : fl_G} {r : Int32} (h : fS_isMeshable a0 a1 g = some (r, g1)) : Met l yS_isMeshable wS_isMeshable ({ frames := 3, cells := 0, slots := 0, locals := 60 }) (va_Pc [.ref (ad 0), .ref (ad a0), .int a1] (fl_Pre (dC, dI) al_cl 32 (mc_sh ca ad) ad (mc_ty ca) mc_ns g)) (fl_QI (dC, dI) al_cl 32 (mc_sh ca ad) ad r g1) 0 0 (fl_A 32 ad) := by
  refine fl_of (cc := prog_1_method_34_code) (maxL := 3) (ret := (some .boolean)) (by decide) rfl (Nat.le_of_ble_eq_true rfl) ?_
  intro p e s m below meth c ls hx hb hr hml hts hown hlocks hP hK hN hl
  have hown : s.vm.findClass "MeshedSpans" = some m.cls := hown
  have hS : va_S (fl_A 32 ad) s.heap s.heap [] := va_S.rf
  have hl : lv_has ls 3 [(0, .ref (ad 0)), (1, .ref (ad a0)), (2, .int a1)] := hl
  unfold fS_isMeshable at h
  refine lv_aload_n hx hb dS_isMeshable_0 rfl (lv_at hl 1 rfl) ?_
  refine lv_iload_n hx hb dS_isMeshable_1 rfl (lv_at hl 2 rfl) ?_
  replace h := fl_ck_some h
  obtain ⟨hk1, h⟩ := h
  replace h := fl_bd_some h
  obtain ⟨r2, g3, hc4, h⟩ := h
  refine fl_calli (va_runV (As := [.int a1]) (rest := []) ⟨hx, hb, hml, hown, hts⟩ (cM_isOf l dC dI ca ad hI a0 a1 hc4) (kM_isOf hts (hts _ gm_234) ⟨Nat.le_of_ble_eq_true rfl, Nat.le_of_ble_eq_true rfl⟩) (fl_preV hK hP hN (mc_lt hk1 (by decide)) (mc_sh4 hk1) rfl) rfl rfl hl.1 rfl (lv_room (Nat.le_of_ble_eq_true rfl)) dS_isMeshable_2 ⟨Nat.le_refl 0, Nat.le_refl 0⟩) hS (fun H locs hP hS => ?_)
  refine lv_if_eq (tgt := 39) hx hb dS_isMeshable_5 (by decide) (fun c5 => ?_) (fun c5 => ?_)
  · replace h := fl_pos c5 h
    refine lv_iconst (v := 0) hx hb dS_isMeshable_39 (by decide) ?_
    exact fl_zret hx hb hr hlocks hP hS (Or.inl rfl) h dS_isMeshable_40
  · replace h := fl_neg c5 h
    refine lv_aload_n hx hb dS_isMeshable_8 rfl (lv_at hl 0 rfl) ?_
    refine mc_get0 (v := .ref (ad 22)) hx hb hts mc_in0 hown hK hP (q := 0) rfl 4 (by decide) (hts _ gm_144) rfl dS_isMeshable_9 ?_
    refine lv_iload_n hx hb dS_isMeshable_12 rfl (lv_at hl 2 rfl) ?_
    replace h := fl_ck_some h
    obtain ⟨hi6, h⟩ := h
    refine mc_aald13 hx hb hK hP hi6 dS_isMeshable_13 ?_
    refine mc_getN5 (v := va_rf (Option.map ad (fl_rf (g3 (23 + 2 * (Int32.toNatClampNeg a1)) 0)))) hx hb hts mc_in5 hown hK hP (q := (23 + 2 * (Int32.toNatClampNeg a1))) (mc_kdB hi6.2) 0 (by decide) (hN.use _ nm_4) rfl dS_isMeshable_14 ?_
    replace h := fl_lt_some h
    obtain ⟨o7, ho8, h⟩ := h
    rw [← ho8]
    refine lv_aload_n hx hb dS_isMeshable_17 rfl (lv_at hl 1 rfl) ?_
    replace h := fl_ck_some h
    obtain ⟨hb9, h⟩ := h
    replace h := fl_ck_some h
    obtain ⟨hb10, h⟩ := h
    refine fl_acmp_eq (rx := o7) (ry := (some a0)) (tgt := 39) hI hb9 hb10 hx hb dS_isMeshable_18 (by decide) (fun c11 => ?_) (fun c11 => ?_)
    · replace h := fl_pos c11 h
      refine lv_iconst (v := 0) hx hb dS_isMeshable_39 (by decide) ?_
      exact fl_zret hx hb hr hlocks hP hS (Or.inl rfl) h dS_isMeshable_40
    · replace h := fl_neg c11 h
      refine lv_aload_n hx hb dS_isMeshable_21 rfl (lv_at hl 1 rfl) ?_
      replace h := fl_bd_some h
      obtain ⟨r12, g13, hc14, h⟩ := h
      refine fl_calli (va_runV (As := []) (rest := []) ⟨hx, hb, hml, hown, hts⟩ (cM_isEmpty l dC dI ca ad hI a0 hc14) (kM_isEmpty hts (hts _ gm_359) ⟨Nat.le_of_ble_eq_true rfl, Nat.le_of_ble_eq_true rfl⟩) (fl_preV hK hP hN (mc_lt hk1 (by decide)) (mc_sh4 hk1) rfl) rfl rfl hl.1 rfl (lv_room (Nat.le_of_ble_eq_true rfl)) dS_isMeshable_22 ⟨Nat.le_refl 0, Nat.le_refl 0⟩) hS (fun H locs hP hS => ?_)
      refine lv_if_ne (tgt := 39) hx hb dS_isMeshable_25 (by decide) (fun c15 => ?_) (fun c15 => ?_)
      · replace h := fl_neg c15 h
        refine lv_iconst (v := 0) hx hb dS_isMeshable_39 (by decide) ?_
        exact fl_zret hx hb hr hlocks hP hS (Or.inl rfl) h dS_isMeshable_40
      · replace h := fl_pos c15 h
        refine lv_aload_n hx hb dS_isMeshable_28 rfl (lv_at hl 1 rfl) ?_
        replace h := fl_bd_some h
        obtain ⟨r16, g17, hc18, h⟩ := h
        refine fl_calli (va_runV (As := []) (rest := []) ⟨hx, hb, hml, hown, hts⟩ (cM_isFull l dC dI ca ad hI a0 hc18) (kM_isFull hts (hts _ gm_238) ⟨Nat.le_of_ble_eq_true rfl, Nat.le_of_ble_eq_true rfl⟩) (fl_preV hK hP hN (mc_lt hk1 (by decide)) (mc_sh4 hk1) rfl) rfl rfl hl.1 rfl (lv_room (Nat.le_of_ble_eq_true rfl)) dS_isMeshable_29 ⟨Nat.le_refl 0, Nat.le_refl 0⟩) hS (fun H locs hP hS => ?_)
        refine lv_if_ne (tgt := 39) hx hb dS_isMeshable_32 (by decide) (fun c19 => ?_) (fun c19 => ?_)
        · replace h := fl_neg c19 h
          refine lv_iconst (v := 0) hx hb dS_isMeshable_39 (by decide) ?_
          exact fl_zret hx hb hr hlocks hP hS (Or.inl rfl) h dS_isMeshable_40
        · replace h := fl_pos c19 h
          refine lv_iconst (v := 1) hx hb dS_isMeshable_35 (by decide) ?_
          refine lv_goto (tgt := 40) hx hb dS_isMeshable_36 (by decide) ?_
          exact fl_zret hx hb hr hlocks hP hS (Or.inr rfl) h dS_isMeshable_40
def yS_insertByNumber : MethodName := ⟨"MeshedSpans", "insertByNumber", "(II)V"⟩
def wS_insertByNumber : List Cond := .code yS_insertByNumber prog_1_method_35_code 5 none :: gw
theorem kS_insertByNumber {R : Room} {s : State} {args : Array Value} {own : String} {ix : Nat} (hts : ∀ w ∈ gw, w.before args s = true) (hl : (Cond.methodLink own ix yS_insertByNumber).before args s = true) (hR : 0 + 1 ≤ R.frames ∧ 8 + (5 + 11) + 0 ≤ R.locals) : CallW R s args own "MeshedSpans" ix yS_insertByNumber prog_1_method_35_code 5 none wS_insertByNumber { frames := 0, cells := 0, slots := 0, locals := 0 } 0 0 2 := ⟨callB_of (rm := { frames := 0, cells := 0, slots := 0, locals := 0 }) 2 hts (gw_c (ct := .code yS_insertByNumber prog_1_method_35_code 5 none) gm_411) rfl rfl rfl (hts _ gm_41) hl (by decide +kernel) hR, hts _ gm_410, hts _ gm_14⟩
theorem dS_insertByNumber_0 : decode prog_1_method_35_code 0 = .ok (.aload_n 0, 1) := by decide +kernel
theorem dS_insertByNumber_1 : decode prog_1_method_35_code 1 = .ok (.getfield 34, 3) := by decide +kernel
theorem dS_insertByNumber_4 : decode prog_1_method_35_code 4 = .ok (.iload_n 1, 1) := by decide +kernel
theorem dS_insertByNumber_5 : decode prog_1_method_35_code 5 = .ok (.aaload, 1) := by decide +kernel
theorem dS_insertByNumber_6 : decode prog_1_method_35_code 6 = .ok (.getfield 140, 3) := by decide +kernel
theorem dS_insertByNumber_9 : decode prog_1_method_35_code 9 = .ok (.istore_n 3, 1) := by decide +kernel
theorem dS_insertByNumber_10 : decode prog_1_method_35_code 10 = .ok (.iload_n 2, 1) := by decide +kernel
theorem dS_insertByNumber_11 : decode prog_1_method_35_code 11 = .ok (.istore 4, 2) := by decide +kernel
theorem dS_insertByNumber_13 : decode prog_1_method_35_code 13 = .ok (.iload 4, 2) := by decide +kernel
theorem dS_insertByNumber_15 : decode prog_1_method_35_code 15 = .ok (.ifCond .le 46, 3) := by decide +kernel
theorem dS_insertByNumber_18 : decode prog_1_method_35_code 18 = .ok (.aload_n 0, 1) := by decide +kernel
theorem dS_insertByNumber_19 : decode prog_1_method_35_code 19 = .ok (.getfield 34, 3) := by decide +kernel
theorem dS_insertByNumber_22 : decode prog_1_method_35_code 22 = .ok (.aload_n 0, 1) := by decide +kernel
theorem dS_insertByNumber_23 : decode prog_1_method_35_code 23 = .ok (.getfield 46, 3) := by decide +kernel
theorem dS_insertByNumber_26 : decode prog_1_method_35_code 26 = .ok (.iload 4, 2) := by decide +kernel
theorem dS_insertByNumber_28 : decode prog_1_method_35_code 28 = .ok (.iconst 1, 1) := by decide +kernel
theorem dS_insertByNumber_29 : decode prog_1_method_35_code 29 = .ok (.isub, 1) := by decide +kernel
theorem dS_insertByNumber_30 : decode prog_1_method_35_code 30 = .ok (.iaload, 1) := by decide +kernel
theorem dS_insertByNumber_31 : decode prog_1_method_35_code 31 = .ok (.aaload, 1) := by decide +kernel
theorem dS_insertByNumber_32 : decode prog_1_method_35_code 32 = .ok (.getfield 140, 3) := by decide +kernel
theorem dS_insertByNumber_35 : decode prog_1_method_35_code 35 = .ok (.iload_n 3, 1) := by decide +kernel
theorem dS_insertByNumber_36 : decode prog_1_method_35_code 36 = .ok (.if_icmp .le 25, 3) := by decide +kernel
theorem dS_insertByNumber_39 : decode prog_1_method_35_code 39 = .ok (.aload_n 0, 1) := by decide +kernel
theorem dS_insertByNumber_40 : decode prog_1_method_35_code 40 = .ok (.getfield 46, 3) := by decide +kernel
theorem dS_insertByNumber_43 : decode prog_1_method_35_code 43 = .ok (.iload 4, 2) := by decide +kernel
theorem dS_insertByNumber_45 : decode prog_1_method_35_code 45 = .ok (.aload_n 0, 1) := by decide +kernel
theorem dS_insertByNumber_46 : decode prog_1_method_35_code 46 = .ok (.getfield 46, 3) := by decide +kernel
theorem dS_insertByNumber_49 : decode prog_1_method_35_code 49 = .ok (.iload 4, 2) := by decide +kernel
theorem dS_insertByNumber_51 : decode prog_1_method_35_code 51 = .ok (.iconst 1, 1) := by decide +kernel
theorem dS_insertByNumber_52 : decode prog_1_method_35_code 52 = .ok (.isub, 1) := by decide +kernel
theorem dS_insertByNumber_53 : decode prog_1_method_35_code 53 = .ok (.iaload, 1) := by decide +kernel
theorem dS_insertByNumber_54 : decode prog_1_method_35_code 54 = .ok (.iastore, 1) := by decide +kernel
theorem dS_insertByNumber_55 : decode prog_1_method_35_code 55 = .ok (.iinc 4 (-1), 3) := by decide +kernel
theorem dS_insertByNumber_58 : decode prog_1_method_35_code 58 = .ok (.goto (-45), 3) := by decide +kernel
theorem dS_insertByNumber_61 : decode prog_1_method_35_code 61 = .ok (.aload_n 0, 1) := by decide +kernel
theorem dS_insertByNumber_62 : decode prog_1_method_35_code 62 = .ok (.getfield 46, 3) := by decide +kernel
theorem dS_insertByNumber_65 : decode prog_1_method_35_code 65 = .ok (.iload 4, 2) := by decide +kernel
theorem dS_insertByNumber_67 : decode prog_1_method_35_code 67 = .ok (.iload_n 1, 1) := by decide +kernel
theorem dS_insertByNumber_68 : decode prog_1_method_35_code 68 = .ok (.iastore, 1) := by decide +kernel
theorem dS_insertByNumber_69 : decode prog_1_method_35_code 69 = .ok (.return_, 1) := by decide +kernel
def fS_insertByNumber_B13 (rec : Int32 → Int32 → Int32 → Int32 → fl_G → Option ((Int32) × fl_G)) (v4 : Int32) (v3 : Int32) (v1 : Int32) (v2 : Int32) (g : fl_G) : Option ((Int32) × fl_G) :=
  if v4 ≤ 0 then (some (v4, g)) else (fl_ck (fl_in (v4 - 1) 12) (fl_ck (fl_in (g 31 (Int32.toNatClampNeg (v4 - 1))) 12) (if (g (10 + (Int32.toNatClampNeg (g 31 (Int32.toNatClampNeg (v4 - 1))))) 1) ≤ v3 then (some (v4, g)) else (fl_ck (fl_in (v4 - 1) 12) (fl_ck (fl_in v4 12) (rec (v4 + (-1)) v3 v1 v2 (fl_up g 31 (Int32.toNatClampNeg v4) (g 31 (Int32.toNatClampNeg (v4 - 1))))))))))
def fS_insertByNumber_L13 : Nat → Int32 → Int32 → Int32 → Int32 → fl_G → Option ((Int32) × fl_G)
  | 0, _, _, _, _, _ => none
  | n + 1, v4, v3, v1, v2, g => fS_insertByNumber_B13 (fS_insertByNumber_L13 n) v4 v3 v1 v2 g
def fS_insertByNumber (a0 : Int32) (a1 : Int32) (g : fl_G) : Option (Unit × fl_G) :=
  fl_ck (fl_in a0 12) (fl_bd (fS_insertByNumber_L13 1000 a1 (g (10 + (Int32.toNatClampNeg a0)) 1) a0 a1 g) (fun r9 g10 => fl_ck (fl_in r9 12) (some ((), (fl_up g10 31 (Int32.toNatClampNeg r9) a0)))))
set_option maxHeartbeats 4000000 in
set_option maxRecDepth 100000 in
theorem cS_insertByNumber (l : Launch) (dC : Nat → ClassId) (dI : Nat → Nat → Nat) (ca : Nat → ClassId) (ad : Nat → Nat) (hI : fl_inj 32 ad) (a0 : Int32) (a1 : Int32) {g g1 : fl_G} {r : Unit} (h : fS_insertByNumber a0 a1 g = some (r, g1)) : Met l yS_insertByNumber wS_insertByNumber ({ frames := 0, cells := 0, slots := 0, locals := 0 }) (va_Pc [.ref (ad 0), .int a0, .int a1] (fl_Pre (dC, dI) al_cl 32 (mc_sh ca ad) ad (mc_ty ca) mc_ns g)) (fl_QV (dC, dI) al_cl 32 (mc_sh ca ad) ad g1) 0 0 (fl_A 32 ad) := by
  refine fl_of (cc := prog_1_method_35_code) (maxL := 5) (ret := none) (by decide) rfl (Nat.le_of_ble_eq_true rfl) ?_
  intro p e s m below meth c ls hx hb hr hml hts hown hlocks hP hK hN hl
  have hown : s.vm.findClass "MeshedSpans" = some m.cls := hown
  have hS : va_S (fl_A 32 ad) s.heap s.heap [] := va_S.rf
  have hl : lv_has ls 5 [(0, .ref (ad 0)), (1, .int a0), (2, .int a1)] := hl
  unfold fS_insertByNumber at h
  refine lv_aload_n hx hb dS_insertByNumber_0 rfl (lv_at hl 0 rfl) ?_
  refine mc_get0 (v := .ref (ad 9)) hx hb hts mc_in0 hown hK hP (q := 0) rfl 3 (by decide) (hts _ gm_143) rfl dS_insertByNumber_1 ?_
  refine lv_iload_n hx hb dS_insertByNumber_4 rfl (lv_at hl 1 rfl) ?_
  replace h := fl_ck_some h
  obtain ⟨hi1, h⟩ := h
  refine mc_aald12 hx hb hK hP hi1 dS_insertByNumber_5 ?_
  refine mc_getN4 (v := .int (g (10 + (Int32.toNatClampNeg a0)) 1)) hx hb hts mc_in4 hown hK hP (q := (10 + (Int32.toNatClampNeg a0))) (mc_kdM hi1.2) 1 (by decide) (hN.use _ nm_1) rfl dS_insertByNumber_6 ?_
  refine lv_istore_n (lv' := [(3, .int (g (10 + (Int32.toNatClampNeg a0)) 1)), (0, .ref (ad 0)), (1, .int a0), (2, .int a1)]) hx hb dS_insertByNumber_9 rfl hl (by decide) rfl (fun ls hl => ?_)
  refine lv_iload_n hx hb dS_insertByNumber_10 rfl (lv_at hl 3 rfl) ?_
  refine lv_istore (lv' := [(4, .int a1), (3, .int (g (10 + (Int32.toNatClampNeg a0)) 1)), (0, .ref (ad 0)), (1, .int a0), (2, .int a1)]) hx hb dS_insertByNumber_11 hl (by decide) rfl (fun ls hl => ?_)
  have loop2 : ∀ (n : Nat) (v4 : Int32) (v3 : Int32) (v1 : Int32) (v2 : Int32) (g : fl_G) (z : ((Int32) × fl_G)) (H : Heap) (locs : List Loc) (ls : Array Slot), fS_insertByNumber_L13 n v4 v3 v1 v2 g = some z → va_P (dC, dI) al_cl (fl_ws 32 (mc_sh ca ad) ad g) H → va_S (fl_A 32 ad) s.heap H locs → lv_has ls 5 [(4, .int v4), (3, .int v3), (0, .ref (ad 0)), (1, .int v1), (2, .int v2)] → (∀ (H : Heap) (locs : List Loc) (ls : Array Slot), va_P (dC, dI) al_cl (fl_ws 32 (mc_sh ca ad) ad z.2) H → va_S (fl_A 32 ad) s.heap H locs → lv_has ls 5 [(4, .int z.1), (3, .int v3), (0, .ref (ad 0)), (1, .int v1), (2, .int v2)] → W p l e ({ frames := 0, cells := 0, slots := 0, locals := 0 }) s m ([.ref (ad 0), .int a0, .int a1] : List Value).toArray below meth c H locs 0 0 (MQ below (fl_QV (dC, dI) al_cl 32 (mc_sh ca ad) ad g1) ([.ref (ad 0), .int a0, .int a1] : List Value).toArray s 0 0 (fl_A 32 ad)) (F0 m 61 ls [])) → W p l e ({ frames := 0, cells := 0, slots := 0, locals := 0 }) s m ([.ref (ad 0), .int a0, .int a1] : List Value).toArray below meth c H locs 0 0 (MQ below (fl_QV (dC, dI) al_cl 32 (mc_sh ca ad) ad g1) ([.ref (ad 0), .int a0, .int a1] : List Value).toArray s 0 0 (fl_A 32 ad)) (F0 m 13 ls []) := by
    intro n
    clear h hP hS hl
    induction n with
    | zero => intro v4 v3 v1 v2 g z H locs ls h; cases h
    | succ n ih2 =>
      intro v4 v3 v1 v2 g z H locs ls h hP hS hl K2
      have h : fS_insertByNumber_B13 (fS_insertByNumber_L13 n) v4 v3 v1 v2 g = some z := h
      unfold fS_insertByNumber_B13 at h
      refine lv_iload hx hb dS_insertByNumber_13 (lv_at hl 0 rfl) ?_
      refine lv_if_le (tgt := 61) hx hb dS_insertByNumber_15 (by decide) (fun c3 => ?_) (fun c3 => ?_)
      · replace h := fl_pos c3 h
        cases h
        exact K2 _ _ _ hP hS (lv_sub hl [0, 1, 2, 3, 4] rfl)
      · replace h := fl_neg c3 h
        refine lv_aload_n hx hb dS_insertByNumber_18 rfl (lv_at hl 2 rfl) ?_
        refine mc_get0 (v := .ref (ad 9)) hx hb hts mc_in0 hown hK hP (q := 0) rfl 3 (by decide) (hts _ gm_143) rfl dS_insertByNumber_19 ?_
        refine lv_aload_n hx hb dS_insertByNumber_22 rfl (lv_at hl 2 rfl) ?_
        refine mc_get0 (v := .ref (ad 31)) hx hb hts mc_in0 hown hK hP (q := 0) rfl 5 (by decide) (hts _ gm_145) rfl dS_insertByNumber_23 ?_
        refine lv_iload hx hb dS_insertByNumber_26 (lv_at hl 0 rfl) ?_
        refine lv_iconst (v := 1) hx hb dS_insertByNumber_28 (by decide) ?_
        refine lv_isub hx hb dS_insertByNumber_29 ?_
        replace h := fl_ck_some h
        obtain ⟨hi4, h⟩ := h
        refine mc_iald hx hb hK hP (q := 31) rfl hi4 dS_insertByNumber_30 ?_
        replace h := fl_ck_some h
        obtain ⟨hi5, h⟩ := h
        refine mc_aald12 hx hb hK hP hi5 dS_insertByNumber_31 ?_
        refine mc_getN4 (v := .int (g (10 + (Int32.toNatClampNeg (g 31 (Int32.toNatClampNeg (v4 - 1))))) 1)) hx hb hts mc_in4 hown hK hP (q := (10 + (Int32.toNatClampNeg (g 31 (Int32.toNatClampNeg (v4 - 1)))))) (mc_kdM hi5.2) 1 (by decide) (hN.use _ nm_1) rfl dS_insertByNumber_32 ?_
        refine lv_iload_n hx hb dS_insertByNumber_35 rfl (lv_at hl 1 rfl) ?_
        refine lv_icmp_le (tgt := 61) hx hb dS_insertByNumber_36 (by decide) (fun c6 => ?_) (fun c6 => ?_)
        · replace h := fl_pos c6 h
          cases h
          exact K2 _ _ _ hP hS (lv_sub hl [0, 1, 2, 3, 4] rfl)
        · replace h := fl_neg c6 h
          refine lv_aload_n hx hb dS_insertByNumber_39 rfl (lv_at hl 2 rfl) ?_
          refine mc_get0 (v := .ref (ad 31)) hx hb hts mc_in0 hown hK hP (q := 0) rfl 5 (by decide) (hts _ gm_145) rfl dS_insertByNumber_40 ?_
          refine lv_iload hx hb dS_insertByNumber_43 (lv_at hl 0 rfl) ?_
          refine lv_aload_n hx hb dS_insertByNumber_45 rfl (lv_at hl 2 rfl) ?_
          refine mc_get0 (v := .ref (ad 31)) hx hb hts mc_in0 hown hK hP (q := 0) rfl 5 (by decide) (hts _ gm_145) rfl dS_insertByNumber_46 ?_
          refine lv_iload hx hb dS_insertByNumber_49 (lv_at hl 0 rfl) ?_
          refine lv_iconst (v := 1) hx hb dS_insertByNumber_51 (by decide) ?_
          refine lv_isub hx hb dS_insertByNumber_52 ?_
          replace h := fl_ck_some h
          obtain ⟨hi7, h⟩ := h
          refine mc_iald hx hb hK hP (q := 31) rfl hi7 dS_insertByNumber_53 ?_
          replace h := fl_ck_some h
          obtain ⟨hi8, h⟩ := h
          refine mc_iast hx hb hK hP hI hS (q := 31) rfl hi8 dS_insertByNumber_54 (fun H locs hP hS => ?_)
          have hP : va_P (dC, dI) al_cl (fl_ws 32 (mc_sh ca ad) ad (fl_up g 31 (Int32.toNatClampNeg v4) (g 31 (Int32.toNatClampNeg (v4 - 1))))) H := hP
          refine lv_iinc (v := (v4 + (-1))) (lv' := [(4, .int (v4 + (-1))), (3, .int v3), (0, .ref (ad 0)), (1, .int v1), (2, .int v2)]) hx hb dS_insertByNumber_55 hl (k := 0) rfl rfl (by decide) rfl (fun ls hl => ?_)
          refine lv_goto (tgt := 13) hx hb dS_insertByNumber_58 (by decide) ?_
          exact ih2 (v4 + (-1)) v3 v1 v2 _ _ _ _ _ h hP hS (lv_sub hl [0, 1, 2, 3, 4] rfl) K2
  obtain ⟨r9, g10, hc11, h⟩ := fl_bd_some h
  refine loop2 1000 a1 (g (10 + (Int32.toNatClampNeg a0)) 1) a0 a1 _ (r9, g10) _ _ _ hc11 hP hS (lv_sub hl [0, 1, 2, 3, 4] rfl) (fun H locs ls hP hS hl => ?_)
  have hP : va_P (dC, dI) al_cl (fl_ws 32 (mc_sh ca ad) ad g10) H := hP
  have hl : lv_has ls 5 [(4, .int r9), (3, .int (g (10 + (Int32.toNatClampNeg a0)) 1)), (0, .ref (ad 0)), (1, .int a0), (2, .int a1)] := hl
  refine lv_aload_n hx hb dS_insertByNumber_61 rfl (lv_at hl 2 rfl) ?_
  refine mc_get0 (v := .ref (ad 31)) hx hb hts mc_in0 hown hK hP (q := 0) rfl 5 (by decide) (hts _ gm_145) rfl dS_insertByNumber_62 ?_
  refine lv_iload hx hb dS_insertByNumber_65 (lv_at hl 0 rfl) ?_
  refine lv_iload_n hx hb dS_insertByNumber_67 rfl (lv_at hl 3 rfl) ?_
  replace h := fl_ck_some h
  obtain ⟨hi12, h⟩ := h
  refine mc_iast hx hb hK hP hI hS (q := 31) rfl hi12 dS_insertByNumber_68 (fun H locs hP hS => ?_)
  have hP : va_P (dC, dI) al_cl (fl_ws 32 (mc_sh ca ad) ad (fl_up g10 31 (Int32.toNatClampNeg r9) a0)) H := hP
  exact fl_vret hx hb hr hlocks hP hS h dS_insertByNumber_69
def yS_gatherMeshable : MethodName := ⟨"MeshedSpans", "gatherMeshable", "(I)I"⟩
def wS_gatherMeshable : List Cond := .code yS_gatherMeshable prog_1_method_33_code 4 (some .int) :: gw
theorem kS_gatherMeshable {R : Room} {s : State} {args : Array Value} {own : String} {ix : Nat} (hts : ∀ w ∈ gw, w.before args s = true) (hl : (Cond.methodLink own ix yS_gatherMeshable).before args s = true) (hR : 4 + 1 ≤ R.frames ∧ 8 + (4 + 11) + 82 ≤ R.locals) : CallW R s args own "MeshedSpans" ix yS_gatherMeshable prog_1_method_33_code 4 (some .int) wS_gatherMeshable { frames := 4, cells := 0, slots := 0, locals := 82 } 0 0 1 := ⟨callB_of (rm := { frames := 4, cells := 0, slots := 0, locals := 82 }) 1 hts (gw_c (ct := .code yS_gatherMeshable prog_1_method_33_code 4 (some .int)) gm_405) rfl rfl rfl (hts _ gm_41) hl (by decide +kernel) hR, hts _ gm_404, hts _ gm_12⟩
theorem dS_gatherMeshable_0 : decode prog_1_method_33_code 0 = .ok (.iconst 0, 1) := by decide +kernel
theorem dS_gatherMeshable_1 : decode prog_1_method_33_code 1 = .ok (.istore_n 2, 1) := by decide +kernel
theorem dS_gatherMeshable_2 : decode prog_1_method_33_code 2 = .ok (.iconst 0, 1) := by decide +kernel
theorem dS_gatherMeshable_3 : decode prog_1_method_33_code 3 = .ok (.istore_n 3, 1) := by decide +kernel
theorem dS_gatherMeshable_4 : decode prog_1_method_33_code 4 = .ok (.iload_n 3, 1) := by decide +kernel
theorem dS_gatherMeshable_5 : decode prog_1_method_33_code 5 = .ok (.bipush 12, 2) := by decide +kernel
theorem dS_gatherMeshable_7 : decode prog_1_method_33_code 7 = .ok (.if_icmp .ge 32, 3) := by decide +kernel
theorem dS_gatherMeshable_10 : decode prog_1_method_33_code 10 = .ok (.aload_n 0, 1) := by decide +kernel
theorem dS_gatherMeshable_11 : decode prog_1_method_33_code 11 = .ok (.aload_n 0, 1) := by decide +kernel
theorem dS_gatherMeshable_12 : decode prog_1_method_33_code 12 = .ok (.getfield 34, 3) := by decide +kernel
theorem dS_gatherMeshable_15 : decode prog_1_method_33_code 15 = .ok (.iload_n 3, 1) := by decide +kernel
theorem dS_gatherMeshable_16 : decode prog_1_method_33_code 16 = .ok (.aaload, 1) := by decide +kernel
theorem dS_gatherMeshable_17 : decode prog_1_method_33_code 17 = .ok (.iload_n 1, 1) := by decide +kernel
theorem dS_gatherMeshable_18 : decode prog_1_method_33_code 18 = .ok (.invokevirtual 229, 3) := by decide +kernel
theorem dS_gatherMeshable_21 : decode prog_1_method_33_code 21 = .ok (.ifCond .eq 12, 3) := by decide +kernel
theorem dS_gatherMeshable_24 : decode prog_1_method_33_code 24 = .ok (.aload_n 0, 1) := by decide +kernel
theorem dS_gatherMeshable_25 : decode prog_1_method_33_code 25 = .ok (.iload_n 3, 1) := by decide +kernel
theorem dS_gatherMeshable_26 : decode prog_1_method_33_code 26 = .ok (.iload_n 2, 1) := by decide +kernel
theorem dS_gatherMeshable_27 : decode prog_1_method_33_code 27 = .ok (.invokevirtual 233, 3) := by decide +kernel
theorem dS_gatherMeshable_30 : decode prog_1_method_33_code 30 = .ok (.iinc 2 1, 3) := by decide +kernel
theorem dS_gatherMeshable_33 : decode prog_1_method_33_code 33 = .ok (.iinc 3 1, 3) := by decide +kernel
theorem dS_gatherMeshable_36 : decode prog_1_method_33_code 36 = .ok (.goto (-32), 3) := by decide +kernel
theorem dS_gatherMeshable_39 : decode prog_1_method_33_code 39 = .ok (.iload_n 2, 1) := by decide +kernel
theorem dS_gatherMeshable_40 : decode prog_1_method_33_code 40 = .ok (.ireturn, 1) := by decide +kernel
def fS_gatherMeshable_B4 (rec : Int32 → Int32 → Int32 → fl_G → Option ((Int32 × Int32) × fl_G)) (v3 : Int32) (v2 : Int32) (v1 : Int32) (g : fl_G) : Option ((Int32 × Int32) × fl_G) :=
  if 12 ≤ v3 then (some ((v3, v2), g)) else (fl_ck (fl_in v3 12) (fl_bd (fS_isMeshable (10 + (Int32.toNatClampNeg v3)) v1 g) (fun r4 g5 => if r4 = 0 then (rec (v3 + 1) v2 v1 g5) else (fl_bd (fS_insertByNumber v3 v2 g5) (fun r8 g9 => rec (v3 + 1) (v2 + 1) v1 g9)))))
def fS_gatherMeshable_L4 : Nat → Int32 → Int32 → Int32 → fl_G → Option ((Int32 × Int32) × fl_G)
  | 0, _, _, _, _ => none
  | n + 1, v3, v2, v1, g => fS_gatherMeshable_B4 (fS_gatherMeshable_L4 n) v3 v2 v1 g
def fS_gatherMeshable (a0 : Int32) (g : fl_G) : Option (Int32 × fl_G) :=
  fl_bd (fS_gatherMeshable_L4 1000 0 0 a0 g) (fun r11 g12 => some (r11.2, g12))
set_option maxHeartbeats 4000000 in
set_option maxRecDepth 100000 in
theorem cS_gatherMeshable (l : Launch) (dC : Nat → ClassId) (dI : Nat → Nat → Nat) (ca : Nat → ClassId) (ad : Nat → Nat) (hI : fl_inj 32 ad) (a0 : Int32) {g g1 : fl_G} {r : Int32} (h : fS_gatherMeshable a0 g = some (r, g1)) : Met l yS_gatherMeshable wS_gatherMeshable ({ frames := 4, cells := 0, slots := 0, locals := 82 }) (va_Pc [.ref (ad 0), .int a0] (fl_Pre (dC, dI) al_cl 32 (mc_sh ca ad) ad (mc_ty ca) mc_ns g)) (fl_QI (dC, dI) al_cl 32 (mc_sh ca ad) ad r g1) 0 0 (fl_A 32 ad) := by
  refine fl_of (cc := prog_1_method_33_code) (maxL := 4) (ret := (some .int)) (by decide) rfl (Nat.le_of_ble_eq_true rfl) ?_
  intro p e s m below meth c ls hx hb hr hml hts hown hlocks hP hK hN hl
  have hown : s.vm.findClass "MeshedSpans" = some m.cls := hown
  have hS : va_S (fl_A 32 ad) s.heap s.heap [] := va_S.rf
  have hl : lv_has ls 4 [(0, .ref (ad 0)), (1, .int a0)] := hl
  unfold fS_gatherMeshable at h
  refine lv_iconst (v := 0) hx hb dS_gatherMeshable_0 (by decide) ?_
  refine lv_istore_n (lv' := [(2, .int 0), (0, .ref (ad 0)), (1, .int a0)]) hx hb dS_gatherMeshable_1 rfl hl (by decide) rfl (fun ls hl => ?_)
  refine lv_iconst (v := 0) hx hb dS_gatherMeshable_2 (by decide) ?_
  refine lv_istore_n (lv' := [(3, .int 0), (2, .int 0), (0, .ref (ad 0)), (1, .int a0)]) hx hb dS_gatherMeshable_3 rfl hl (by decide) rfl (fun ls hl => ?_)
  have loop1 : ∀ (n : Nat) (v3 : Int32) (v2 : Int32) (v1 : Int32) (g : fl_G) (z : ((Int32 × Int32) × fl_G)) (H : Heap) (locs : List Loc) (ls : Array Slot), fS_gatherMeshable_L4 n v3 v2 v1 g = some z → va_P (dC, dI) al_cl (fl_ws 32 (mc_sh ca ad) ad g) H → va_S (fl_A 32 ad) s.heap H locs → lv_has ls 4 [(3, .int v3), (2, .int v2), (0, .ref (ad 0)), (1, .int v1)] → (∀ (H : Heap) (locs : List Loc) (ls : Array Slot), va_P (dC, dI) al_cl (fl_ws 32 (mc_sh ca ad) ad z.2) H → va_S (fl_A 32 ad) s.heap H locs → lv_has ls 4 [(3, .int z.1.1), (2, .int z.1.2), (0, .ref (ad 0)), (1, .int v1)] → W p l e ({ frames := 4, cells := 0, slots := 0, locals := 82 }) s m ([.ref (ad 0), .int a0] : List Value).toArray below meth c H locs 0 0 (MQ below (fl_QI (dC, dI) al_cl 32 (mc_sh ca ad) ad r g1) ([.ref (ad 0), .int a0] : List Value).toArray s 0 0 (fl_A 32 ad)) (F0 m 39 ls [])) → W p l e ({ frames := 4, cells := 0, slots := 0, locals := 82 }) s m ([.ref (ad 0), .int a0] : List Value).toArray below meth c H locs 0 0 (MQ below (fl_QI (dC, dI) al_cl 32 (mc_sh ca ad) ad r g1) ([.ref (ad 0), .int a0] : List Value).toArray s 0 0 (fl_A 32 ad)) (F0 m 4 ls []) := by
    intro n
    clear h hP hS hl
    induction n with
    | zero => intro v3 v2 v1 g z H locs ls h; cases h
    | succ n ih1 =>
      intro v3 v2 v1 g z H locs ls h hP hS hl K1
      have h : fS_gatherMeshable_B4 (fS_gatherMeshable_L4 n) v3 v2 v1 g = some z := h
      unfold fS_gatherMeshable_B4 at h
      refine lv_iload_n hx hb dS_gatherMeshable_4 rfl (lv_at hl 0 rfl) ?_
      refine lv_bipush (v := 12) hx hb dS_gatherMeshable_5 (by decide) ?_
      refine lv_icmp_ge (tgt := 39) hx hb dS_gatherMeshable_7 (by decide) (fun c2 => ?_) (fun c2 => ?_)
      · replace h := fl_pos c2 h
        cases h
        exact K1 _ _ _ hP hS (lv_sub hl [0, 1, 2, 3] rfl)
      · replace h := fl_neg c2 h
        refine lv_aload_n hx hb dS_gatherMeshable_10 rfl (lv_at hl 2 rfl) ?_
        refine lv_aload_n hx hb dS_gatherMeshable_11 rfl (lv_at hl 2 rfl) ?_
        refine mc_get0 (v := .ref (ad 9)) hx hb hts mc_in0 hown hK hP (q := 0) rfl 3 (by decide) (hts _ gm_143) rfl dS_gatherMeshable_12 ?_
        refine lv_iload_n hx hb dS_gatherMeshable_15 rfl (lv_at hl 0 rfl) ?_
        replace h := fl_ck_some h
        obtain ⟨hi3, h⟩ := h
        refine mc_aald12 hx hb hK hP hi3 dS_gatherMeshable_16 ?_
        refine lv_iload_n hx hb dS_gatherMeshable_17 rfl (lv_at hl 3 rfl) ?_
        replace h := fl_bd_some h
        obtain ⟨r4, g5, hc6, h⟩ := h
        refine fl_calli (va_runV (As := [.ref (ad (10 + (Int32.toNatClampNeg v3))), .int v1]) (rest := []) ⟨hx, hb, hml, hown, hts⟩ (cS_isMeshable l dC dI ca ad hI (10 + (Int32.toNatClampNeg v3)) v1 hc6) (kS_isMeshable hts (hts _ gm_406) ⟨Nat.le_of_ble_eq_true rfl, Nat.le_of_ble_eq_true rfl⟩) (fl_preV hK hP hN (mc_lt rfl (by decide)) (mc_sh0 rfl) rfl) rfl rfl hl.1 rfl (lv_room (Nat.le_of_ble_eq_true rfl)) dS_gatherMeshable_18 ⟨Nat.le_refl 0, Nat.le_refl 0⟩) hS (fun H locs hP hS => ?_)
        refine lv_if_eq (tgt := 33) hx hb dS_gatherMeshable_21 (by decide) (fun c7 => ?_) (fun c7 => ?_)
        · replace h := fl_pos c7 h
          refine lv_iinc (v := (v3 + 1)) (lv' := [(3, .int (v3 + 1)), (2, .int v2), (0, .ref (ad 0)), (1, .int v1)]) hx hb dS_gatherMeshable_33 hl (k := 0) rfl rfl (by decide) rfl (fun ls hl => ?_)
          refine lv_goto (tgt := 4) hx hb dS_gatherMeshable_36 (by decide) ?_
          exact ih1 (v3 + 1) v2 v1 _ _ _ _ _ h hP hS (lv_sub hl [0, 1, 2, 3] rfl) K1
        · replace h := fl_neg c7 h
          refine lv_aload_n hx hb dS_gatherMeshable_24 rfl (lv_at hl 2 rfl) ?_
          refine lv_iload_n hx hb dS_gatherMeshable_25 rfl (lv_at hl 0 rfl) ?_
          refine lv_iload_n hx hb dS_gatherMeshable_26 rfl (lv_at hl 1 rfl) ?_
          replace h := fl_bd_some h
          obtain ⟨r8, g9, hc10, h⟩ := h
          refine fl_callv (va_runV (As := [.int v3, .int v2]) (rest := []) ⟨hx, hb, hml, hown, hts⟩ (cS_insertByNumber l dC dI ca ad hI v3 v2 hc10) (kS_insertByNumber hts (hts _ gm_409) ⟨Nat.le_of_ble_eq_true rfl, Nat.le_of_ble_eq_true rfl⟩) (fl_preV hK hP hN (mc_lt rfl (by decide)) (mc_sh0 rfl) rfl) rfl rfl hl.1 rfl (lv_room (Nat.le_of_ble_eq_true rfl)) dS_gatherMeshable_27 ⟨Nat.le_refl 0, Nat.le_refl 0⟩) hS (fun H locs hP hS => ?_)
          refine lv_iinc (v := (v2 + 1)) (lv' := [(2, .int (v2 + 1)), (3, .int v3), (0, .ref (ad 0)), (1, .int v1)]) hx hb dS_gatherMeshable_30 hl (k := 1) rfl rfl (by decide) rfl (fun ls hl => ?_)
          refine lv_iinc (v := (v3 + 1)) (lv' := [(3, .int (v3 + 1)), (2, .int (v2 + 1)), (0, .ref (ad 0)), (1, .int v1)]) hx hb dS_gatherMeshable_33 hl (k := 1) rfl rfl (by decide) rfl (fun ls hl => ?_)
          refine lv_goto (tgt := 4) hx hb dS_gatherMeshable_36 (by decide) ?_
          exact ih1 (v3 + 1) (v2 + 1) v1 _ _ _ _ _ h hP hS (lv_sub hl [0, 1, 2, 3] rfl) K1
  obtain ⟨r11, g12, hc13, h⟩ := fl_bd_some h
  refine loop1 1000 0 0 a0 _ (r11, g12) _ _ _ hc13 hP hS (lv_sub hl [0, 1, 2, 3] rfl) (fun H locs ls hP hS hl => ?_)
  have hP : va_P (dC, dI) al_cl (fl_ws 32 (mc_sh ca ad) ad g12) H := hP
  have hl : lv_has ls 4 [(3, .int r11.1), (2, .int r11.2), (0, .ref (ad 0)), (1, .int a0)] := hl
  refine lv_iload_n hx hb dS_gatherMeshable_39 rfl (lv_at hl 1 rfl) ?_
  exact fl_iret hx hb hr hlocks hP hS h dS_gatherMeshable_40
def yS_join : MethodName := ⟨"MeshedSpans", "join", "(LMeshedSpans$Miniheap;LMeshedSpans$Miniheap;)V"⟩
def wS_join : List Cond := .code yS_join prog_1_method_37_code 6 none :: gw
theorem kS_join {R : Room} {s : State} {args : Array Value} {own : String} {ix : Nat} (hts : ∀ w ∈ gw, w.before args s = true) (hl : (Cond.methodLink own ix yS_join).before args s = true) (hR : 4 + 1 ≤ R.frames ∧ 8 + (6 + 11) + 86 ≤ R.locals) : CallW R s args own "MeshedSpans" ix yS_join prog_1_method_37_code 6 none wS_join { frames := 4, cells := 0, slots := 0, locals := 86 } 0 0 2 := ⟨callB_of (rm := { frames := 4, cells := 0, slots := 0, locals := 86 }) 2 hts (gw_c (ct := .code yS_join prog_1_method_37_code 6 none) gm_423) rfl rfl rfl (hts _ gm_41) hl (by decide +kernel) hR, hts _ gm_422, hts _ gm_16⟩
theorem dS_join_0 : decode prog_1_method_37_code 0 = .ok (.aload_n 2, 1) := by decide +kernel
theorem dS_join_1 : decode prog_1_method_37_code 1 = .ok (.getfield 210, 3) := by decide +kernel
theorem dS_join_4 : decode prog_1_method_37_code 4 = .ok (.invokestatic 146, 3) := by decide +kernel
theorem dS_join_7 : decode prog_1_method_37_code 7 = .ok (.istore_n 3, 1) := by decide +kernel
theorem dS_join_8 : decode prog_1_method_37_code 8 = .ok (.aload_n 2, 1) := by decide +kernel
theorem dS_join_9 : decode prog_1_method_37_code 9 = .ok (.getfield 210, 3) := by decide +kernel
theorem dS_join_12 : decode prog_1_method_37_code 12 = .ok (.invokestatic 246, 3) := by decide +kernel
theorem dS_join_15 : decode prog_1_method_37_code 15 = .ok (.istore 4, 2) := by decide +kernel
theorem dS_join_17 : decode prog_1_method_37_code 17 = .ok (.iconst 0, 1) := by decide +kernel
theorem dS_join_18 : decode prog_1_method_37_code 18 = .ok (.istore 5, 2) := by decide +kernel
theorem dS_join_20 : decode prog_1_method_37_code 20 = .ok (.iload 5, 2) := by decide +kernel
theorem dS_join_22 : decode prog_1_method_37_code 22 = .ok (.iload 4, 2) := by decide +kernel
theorem dS_join_24 : decode prog_1_method_37_code 24 = .ok (.if_icmp .ge 38, 3) := by decide +kernel
theorem dS_join_27 : decode prog_1_method_37_code 27 = .ok (.aload_n 2, 1) := by decide +kernel
theorem dS_join_28 : decode prog_1_method_37_code 28 = .ok (.iload 5, 2) := by decide +kernel
theorem dS_join_30 : decode prog_1_method_37_code 30 = .ok (.invokevirtual 249, 3) := by decide +kernel
theorem dS_join_33 : decode prog_1_method_37_code 33 = .ok (.ifCond .eq 23, 3) := by decide +kernel
theorem dS_join_36 : decode prog_1_method_37_code 36 = .ok (.aload_n 0, 1) := by decide +kernel
theorem dS_join_37 : decode prog_1_method_37_code 37 = .ok (.getfield 21, 3) := by decide +kernel
theorem dS_join_40 : decode prog_1_method_37_code 40 = .ok (.aload_n 2, 1) := by decide +kernel
theorem dS_join_41 : decode prog_1_method_37_code 41 = .ok (.getfield 220, 3) := by decide +kernel
theorem dS_join_44 : decode prog_1_method_37_code 44 = .ok (.aload_n 1, 1) := by decide +kernel
theorem dS_join_45 : decode prog_1_method_37_code 45 = .ok (.getfield 220, 3) := by decide +kernel
theorem dS_join_48 : decode prog_1_method_37_code 48 = .ok (.iload 5, 2) := by decide +kernel
theorem dS_join_50 : decode prog_1_method_37_code 50 = .ok (.iload_n 3, 1) := by decide +kernel
theorem dS_join_51 : decode prog_1_method_37_code 51 = .ok (.imul, 1) := by decide +kernel
theorem dS_join_52 : decode prog_1_method_37_code 52 = .ok (.iload_n 3, 1) := by decide +kernel
theorem dS_join_53 : decode prog_1_method_37_code 53 = .ok (.invokevirtual 252, 3) := by decide +kernel
theorem dS_join_56 : decode prog_1_method_37_code 56 = .ok (.iinc 5 1, 3) := by decide +kernel
theorem dS_join_59 : decode prog_1_method_37_code 59 = .ok (.goto (-39), 3) := by decide +kernel
theorem dS_join_62 : decode prog_1_method_37_code 62 = .ok (.aload_n 0, 1) := by decide +kernel
theorem dS_join_63 : decode prog_1_method_37_code 63 = .ok (.getfield 21, 3) := by decide +kernel
theorem dS_join_66 : decode prog_1_method_37_code 66 = .ok (.aload_n 2, 1) := by decide +kernel
theorem dS_join_67 : decode prog_1_method_37_code 67 = .ok (.getfield 220, 3) := by decide +kernel
theorem dS_join_70 : decode prog_1_method_37_code 70 = .ok (.aload_n 1, 1) := by decide +kernel
theorem dS_join_71 : decode prog_1_method_37_code 71 = .ok (.getfield 220, 3) := by decide +kernel
theorem dS_join_74 : decode prog_1_method_37_code 74 = .ok (.invokevirtual 256, 3) := by decide +kernel
theorem dS_join_77 : decode prog_1_method_37_code 77 = .ok (.aload_n 1, 1) := by decide +kernel
theorem dS_join_78 : decode prog_1_method_37_code 78 = .ok (.aload_n 2, 1) := by decide +kernel
theorem dS_join_79 : decode prog_1_method_37_code 79 = .ok (.invokevirtual 259, 3) := by decide +kernel
theorem dS_join_82 : decode prog_1_method_37_code 82 = .ok (.aload_n 2, 1) := by decide +kernel
theorem dS_join_83 : decode prog_1_method_37_code 83 = .ok (.invokevirtual 226, 3) := by decide +kernel
theorem dS_join_86 : decode prog_1_method_37_code 86 = .ok (.return_, 1) := by decide +kernel
def fS_join_B20 (rec : Int32 → Int32 → Int32 → Nat → Nat → fl_G → Option ((Int32) × fl_G)) (v5 : Int32) (v4 : Int32) (v3 : Int32) (v1 : Nat) (v2 : Nat) (g : fl_G) : Option ((Int32) × fl_G) :=
  if v4 ≤ v5 then (some (v5, g)) else (fl_ck (mc_kd v2 = 4) (fl_bd (fM_isUsed v2 v5 g) (fun r11 g12 => if r11 = 0 then (rec (v5 + 1) v4 v3 v1 v2 g12) else (fl_ck (mc_kd v1 = 4) (fl_bd (fP_copy (Int32.ofNat (v2 - 10)) (Int32.ofNat (v1 - 10)) (v5 * v3) v3 g12) (fun r16 g17 => rec (v5 + 1) v4 v3 v1 v2 g17))))))
def fS_join_L20 : Nat → Int32 → Int32 → Int32 → Nat → Nat → fl_G → Option ((Int32) × fl_G)
  | 0, _, _, _, _, _, _ => none
  | n + 1, v5, v4, v3, v1, v2, g => fS_join_B20 (fS_join_L20 n) v5 v4 v3 v1 v2 g
def fS_join (a0 : Nat) (a1 : Nat) (g : fl_G) : Option (Unit × fl_G) :=
  fl_ck (mc_kd a1 = 4) (fl_bd (fS_wordsOfClass (g a1 2) g) (fun r2 g3 => fl_bd (fS_cellsOfClass (g3 a1 2) g3) (fun r5 g6 => fl_bd (fS_join_L20 1000 0 r5 r2 a0 a1 g6) (fun r19 g20 => fl_ck (mc_kd a0 = 4) (fl_bd (fP_remapAllOf (Int32.ofNat (a1 - 10)) (Int32.ofNat (a0 - 10)) g20) (fun r23 g24 => fl_bd (fM_takeOverCells a0 a1 g24) (fun r26 g27 => fl_bd (fM_end a1 g27) (fun r29 g30 => some ((), g30)))))))))
set_option maxHeartbeats 4000000 in
set_option maxRecDepth 100000 in
theorem cS_join (l : Launch) (dC : Nat → ClassId) (dI : Nat → Nat → Nat) (ca : Nat → ClassId) (ad : Nat → Nat) (hI : fl_inj 32 ad) (a0 : Nat) (a1 : Nat) {g g1 : fl_G} {r : Unit} (h : fS_join a0 a1 g = some (r, g1)) : Met l yS_join wS_join ({ frames := 4, cells := 0, slots := 0, locals := 86 }) (va_Pc [.ref (ad 0), .ref (ad a0), .ref (ad a1)] (fl_Pre (dC, dI) al_cl 32 (mc_sh ca ad) ad (mc_ty ca) mc_ns g)) (fl_QV (dC, dI) al_cl 32 (mc_sh ca ad) ad g1) 0 0 (fl_A 32 ad) := by
  refine fl_of (cc := prog_1_method_37_code) (maxL := 6) (ret := none) (by decide) rfl (Nat.le_of_ble_eq_true rfl) ?_
  intro p e s m below meth c ls hx hb hr hml hts hown hlocks hP hK hN hl
  have hown : s.vm.findClass "MeshedSpans" = some m.cls := hown
  have hS : va_S (fl_A 32 ad) s.heap s.heap [] := va_S.rf
  have hl : lv_has ls 6 [(0, .ref (ad 0)), (1, .ref (ad a0)), (2, .ref (ad a1))] := hl
  unfold fS_join at h
  refine lv_aload_n hx hb dS_join_0 rfl (lv_at hl 2 rfl) ?_
  replace h := fl_ck_some h
  obtain ⟨hk1, h⟩ := h
  refine mc_getN4 (v := .int (g a1 2)) hx hb hts mc_in4 hown hK hP (q := a1) hk1 2 (by decide) (hN.use _ nm_3) rfl dS_join_1 ?_
  replace h := fl_bd_some h
  obtain ⟨r2, g3, hc4, h⟩ := h
  refine fl_calli (va_runS (As := [.int (g a1 2)]) (rest := []) ⟨hx, hb, hml, hown, hts⟩ (cS_wordsOfClass l dC dI ca ad hI (g a1 2) hc4) (kS_wordsOfClass hts (hts _ gm_218) ⟨Nat.le_of_ble_eq_true rfl, Nat.le_of_ble_eq_true rfl⟩) (fl_preS hK hP hN) rfl rfl hl.1 rfl (lv_room (Nat.le_of_ble_eq_true rfl)) dS_join_4 ⟨Nat.le_refl 0, Nat.le_refl 0⟩) hS (fun H locs hP hS => ?_)
  refine lv_istore_n (lv' := [(3, .int r2), (0, .ref (ad 0)), (1, .ref (ad a0)), (2, .ref (ad a1))]) hx hb dS_join_7 rfl hl (by decide) rfl (fun ls hl => ?_)
  refine lv_aload_n hx hb dS_join_8 rfl (lv_at hl 3 rfl) ?_
  refine mc_getN4 (v := .int (g3 a1 2)) hx hb hts mc_in4 hown hK hP (q := a1) hk1 2 (by decide) (hN.use _ nm_3) rfl dS_join_9 ?_
  replace h := fl_bd_some h
  obtain ⟨r5, g6, hc7, h⟩ := h
  refine fl_calli (va_runS (As := [.int (g3 a1 2)]) (rest := []) ⟨hx, hb, hml, hown, hts⟩ (cS_cellsOfClass l dC dI ca ad hI (g3 a1 2) hc7) (kS_cellsOfClass hts (hts _ gm_424) ⟨Nat.le_of_ble_eq_true rfl, Nat.le_of_ble_eq_true rfl⟩) (fl_preS hK hP hN) rfl rfl hl.1 rfl (lv_room (Nat.le_of_ble_eq_true rfl)) dS_join_12 ⟨Nat.le_refl 0, Nat.le_refl 0⟩) hS (fun H locs hP hS => ?_)
  refine lv_istore (lv' := [(4, .int r5), (3, .int r2), (0, .ref (ad 0)), (1, .ref (ad a0)), (2, .ref (ad a1))]) hx hb dS_join_15 hl (by decide) rfl (fun ls hl => ?_)
  refine lv_iconst (v := 0) hx hb dS_join_17 (by decide) ?_
  refine lv_istore (lv' := [(5, .int 0), (4, .int r5), (3, .int r2), (0, .ref (ad 0)), (1, .ref (ad a0)), (2, .ref (ad a1))]) hx hb dS_join_18 hl (by decide) rfl (fun ls hl => ?_)
  have loop8 : ∀ (n : Nat) (v5 : Int32) (v4 : Int32) (v3 : Int32) (v1 : Nat) (v2 : Nat) (g : fl_G) (z : ((Int32) × fl_G)) (H : Heap) (locs : List Loc) (ls : Array Slot), fS_join_L20 n v5 v4 v3 v1 v2 g = some z → va_P (dC, dI) al_cl (fl_ws 32 (mc_sh ca ad) ad g) H → va_S (fl_A 32 ad) s.heap H locs → lv_has ls 6 [(5, .int v5), (4, .int v4), (3, .int v3), (0, .ref (ad 0)), (1, .ref (ad v1)), (2, .ref (ad v2))] → (∀ (H : Heap) (locs : List Loc) (ls : Array Slot), va_P (dC, dI) al_cl (fl_ws 32 (mc_sh ca ad) ad z.2) H → va_S (fl_A 32 ad) s.heap H locs → lv_has ls 6 [(5, .int z.1), (4, .int v4), (3, .int v3), (0, .ref (ad 0)), (1, .ref (ad v1)), (2, .ref (ad v2))] → W p l e ({ frames := 4, cells := 0, slots := 0, locals := 86 }) s m ([.ref (ad 0), .ref (ad a0), .ref (ad a1)] : List Value).toArray below meth c H locs 0 0 (MQ below (fl_QV (dC, dI) al_cl 32 (mc_sh ca ad) ad g1) ([.ref (ad 0), .ref (ad a0), .ref (ad a1)] : List Value).toArray s 0 0 (fl_A 32 ad)) (F0 m 62 ls [])) → W p l e ({ frames := 4, cells := 0, slots := 0, locals := 86 }) s m ([.ref (ad 0), .ref (ad a0), .ref (ad a1)] : List Value).toArray below meth c H locs 0 0 (MQ below (fl_QV (dC, dI) al_cl 32 (mc_sh ca ad) ad g1) ([.ref (ad 0), .ref (ad a0), .ref (ad a1)] : List Value).toArray s 0 0 (fl_A 32 ad)) (F0 m 20 ls []) := by
    intro n
    clear h hP hS hl
    induction n with
    | zero => intro v5 v4 v3 v1 v2 g z H locs ls h; cases h
    | succ n ih8 =>
      intro v5 v4 v3 v1 v2 g z H locs ls h hP hS hl K8
      have h : fS_join_B20 (fS_join_L20 n) v5 v4 v3 v1 v2 g = some z := h
      unfold fS_join_B20 at h
      refine lv_iload hx hb dS_join_20 (lv_at hl 0 rfl) ?_
      refine lv_iload hx hb dS_join_22 (lv_at hl 1 rfl) ?_
      refine lv_icmp_ge (tgt := 62) hx hb dS_join_24 (by decide) (fun c9 => ?_) (fun c9 => ?_)
      · replace h := fl_pos c9 h
        cases h
        exact K8 _ _ _ hP hS (lv_sub hl [0, 1, 2, 3, 4, 5] rfl)
      · replace h := fl_neg c9 h
        refine lv_aload_n hx hb dS_join_27 rfl (lv_at hl 5 rfl) ?_
        refine lv_iload hx hb dS_join_28 (lv_at hl 0 rfl) ?_
        replace h := fl_ck_some h
        obtain ⟨hk10, h⟩ := h
        replace h := fl_bd_some h
        obtain ⟨r11, g12, hc13, h⟩ := h
        refine fl_calli (va_runV (As := [.int v5]) (rest := []) ⟨hx, hb, hml, hown, hts⟩ (cM_isUsed l dC dI ca ad hI v2 v5 hc13) (kM_isUsed hts (hts _ gm_425) ⟨Nat.le_of_ble_eq_true rfl, Nat.le_of_ble_eq_true rfl⟩) (fl_preV hK hP hN (mc_lt hk10 (by decide)) (mc_sh4 hk10) rfl) rfl rfl hl.1 rfl (lv_room (Nat.le_of_ble_eq_true rfl)) dS_join_30 ⟨Nat.le_refl 0, Nat.le_refl 0⟩) hS (fun H locs hP hS => ?_)
        refine lv_if_eq (tgt := 56) hx hb dS_join_33 (by decide) (fun c14 => ?_) (fun c14 => ?_)
        · replace h := fl_pos c14 h
          refine lv_iinc (v := (v5 + 1)) (lv' := [(5, .int (v5 + 1)), (4, .int v4), (3, .int v3), (0, .ref (ad 0)), (1, .ref (ad v1)), (2, .ref (ad v2))]) hx hb dS_join_56 hl (k := 0) rfl rfl (by decide) rfl (fun ls hl => ?_)
          refine lv_goto (tgt := 20) hx hb dS_join_59 (by decide) ?_
          exact ih8 (v5 + 1) v4 v3 v1 v2 _ _ _ _ _ h hP hS (lv_sub hl [0, 1, 2, 3, 4, 5] rfl) K8
        · replace h := fl_neg c14 h
          refine lv_aload_n hx hb dS_join_36 rfl (lv_at hl 3 rfl) ?_
          refine mc_get0 (v := .ref (ad 2)) hx hb hts mc_in0 hown hK hP (q := 0) rfl 1 (by decide) (hts _ gm_141) rfl dS_join_37 ?_
          refine lv_aload_n hx hb dS_join_40 rfl (lv_at hl 5 rfl) ?_
          refine mc_getN4 (v := .int (Int32.ofNat (v2 - 10))) hx hb hts mc_in4 hown hK hP (q := v2) hk10 0 (by decide) (hN.use _ nm_0) rfl dS_join_41 ?_
          refine lv_aload_n hx hb dS_join_44 rfl (lv_at hl 4 rfl) ?_
          replace h := fl_ck_some h
          obtain ⟨hk15, h⟩ := h
          refine mc_getN4 (v := .int (Int32.ofNat (v1 - 10))) hx hb hts mc_in4 hown hK hP (q := v1) hk15 0 (by decide) (hN.use _ nm_0) rfl dS_join_45 ?_
          refine lv_iload hx hb dS_join_48 (lv_at hl 0 rfl) ?_
          refine lv_iload_n hx hb dS_join_50 rfl (lv_at hl 2 rfl) ?_
          refine lv_imul hx hb dS_join_51 ?_
          refine lv_iload_n hx hb dS_join_52 rfl (lv_at hl 2 rfl) ?_
          replace h := fl_bd_some h
          obtain ⟨r16, g17, hc18, h⟩ := h
          refine fl_callv (va_runV (As := [.int (Int32.ofNat (v2 - 10)), .int (Int32.ofNat (v1 - 10)), .int (v5 * v3), .int v3]) (rest := []) ⟨hx, hb, hml, hown, hts⟩ (cP_copy l dC dI ca ad hI (Int32.ofNat (v2 - 10)) (Int32.ofNat (v1 - 10)) (v5 * v3) v3 hc18) (kP_copy hts (hts _ gm_426) ⟨Nat.le_of_ble_eq_true rfl, Nat.le_of_ble_eq_true rfl⟩) (fl_preV hK hP hN (mc_lt rfl (by decide)) (mc_sh2 rfl) rfl) rfl rfl hl.1 rfl (lv_room (Nat.le_of_ble_eq_true rfl)) dS_join_53 ⟨Nat.le_refl 0, Nat.le_refl 0⟩) hS (fun H locs hP hS => ?_)
          refine lv_iinc (v := (v5 + 1)) (lv' := [(5, .int (v5 + 1)), (4, .int v4), (3, .int v3), (0, .ref (ad 0)), (1, .ref (ad v1)), (2, .ref (ad v2))]) hx hb dS_join_56 hl (k := 0) rfl rfl (by decide) rfl (fun ls hl => ?_)
          refine lv_goto (tgt := 20) hx hb dS_join_59 (by decide) ?_
          exact ih8 (v5 + 1) v4 v3 v1 v2 _ _ _ _ _ h hP hS (lv_sub hl [0, 1, 2, 3, 4, 5] rfl) K8
  obtain ⟨r19, g20, hc21, h⟩ := fl_bd_some h
  refine loop8 1000 0 r5 r2 a0 a1 _ (r19, g20) _ _ _ hc21 hP hS (lv_sub hl [0, 1, 2, 3, 4, 5] rfl) (fun H locs ls hP hS hl => ?_)
  have hP : va_P (dC, dI) al_cl (fl_ws 32 (mc_sh ca ad) ad g20) H := hP
  have hl : lv_has ls 6 [(5, .int r19), (4, .int r5), (3, .int r2), (0, .ref (ad 0)), (1, .ref (ad a0)), (2, .ref (ad a1))] := hl
  refine lv_aload_n hx hb dS_join_62 rfl (lv_at hl 3 rfl) ?_
  refine mc_get0 (v := .ref (ad 2)) hx hb hts mc_in0 hown hK hP (q := 0) rfl 1 (by decide) (hts _ gm_141) rfl dS_join_63 ?_
  refine lv_aload_n hx hb dS_join_66 rfl (lv_at hl 5 rfl) ?_
  refine mc_getN4 (v := .int (Int32.ofNat (a1 - 10))) hx hb hts mc_in4 hown hK hP (q := a1) hk1 0 (by decide) (hN.use _ nm_0) rfl dS_join_67 ?_
  refine lv_aload_n hx hb dS_join_70 rfl (lv_at hl 4 rfl) ?_
  replace h := fl_ck_some h
  obtain ⟨hk22, h⟩ := h
  refine mc_getN4 (v := .int (Int32.ofNat (a0 - 10))) hx hb hts mc_in4 hown hK hP (q := a0) hk22 0 (by decide) (hN.use _ nm_0) rfl dS_join_71 ?_
  replace h := fl_bd_some h
  obtain ⟨r23, g24, hc25, h⟩ := h
  refine fl_callv (va_runV (As := [.int (Int32.ofNat (a1 - 10)), .int (Int32.ofNat (a0 - 10))]) (rest := []) ⟨hx, hb, hml, hown, hts⟩ (cP_remapAllOf l dC dI ca ad hI (Int32.ofNat (a1 - 10)) (Int32.ofNat (a0 - 10)) hc25) (kP_remapAllOf hts (hts _ gm_433) ⟨Nat.le_of_ble_eq_true rfl, Nat.le_of_ble_eq_true rfl⟩) (fl_preV hK hP hN (mc_lt rfl (by decide)) (mc_sh2 rfl) rfl) rfl rfl hl.1 rfl (lv_room (Nat.le_of_ble_eq_true rfl)) dS_join_74 ⟨Nat.le_refl 0, Nat.le_refl 0⟩) hS (fun H locs hP hS => ?_)
  refine lv_aload_n hx hb dS_join_77 rfl (lv_at hl 4 rfl) ?_
  refine lv_aload_n hx hb dS_join_78 rfl (lv_at hl 5 rfl) ?_
  replace h := fl_bd_some h
  obtain ⟨r26, g27, hc28, h⟩ := h
  refine fl_callv (va_runV (As := [.ref (ad a1)]) (rest := []) ⟨hx, hb, hml, hown, hts⟩ (cM_takeOverCells l dC dI ca ad hI a0 a1 hc28) (kM_takeOverCells hts (hts _ gm_437) ⟨Nat.le_of_ble_eq_true rfl, Nat.le_of_ble_eq_true rfl⟩) (fl_preV hK hP hN (mc_lt hk22 (by decide)) (mc_sh4 hk22) rfl) rfl rfl hl.1 rfl (lv_room (Nat.le_of_ble_eq_true rfl)) dS_join_79 ⟨Nat.le_refl 0, Nat.le_refl 0⟩) hS (fun H locs hP hS => ?_)
  refine lv_aload_n hx hb dS_join_82 rfl (lv_at hl 5 rfl) ?_
  replace h := fl_bd_some h
  obtain ⟨r29, g30, hc31, h⟩ := h
  refine fl_callv (va_runV (As := []) (rest := []) ⟨hx, hb, hml, hown, hts⟩ (cM_end l dC dI ca ad hI a1 hc31) (kM_end hts (hts _ gm_368) ⟨Nat.le_of_ble_eq_true rfl, Nat.le_of_ble_eq_true rfl⟩) (fl_preV hK hP hN (mc_lt hk1 (by decide)) (mc_sh4 hk1) rfl) rfl rfl hl.1 rfl (lv_room (Nat.le_of_ble_eq_true rfl)) dS_join_83 ⟨Nat.le_refl 0, Nat.le_refl 0⟩) hS (fun H locs hP hS => ?_)
  exact fl_vret hx hb hr hlocks hP hS h dS_join_86
def yS_probeAndMesh : MethodName := ⟨"MeshedSpans", "probeAndMesh", "(II)Z"⟩
def wS_probeAndMesh : List Cond := .code yS_probeAndMesh prog_1_method_36_code 5 (some .boolean) :: gw
theorem kS_probeAndMesh {R : Room} {s : State} {args : Array Value} {own : String} {ix : Nat} (hts : ∀ w ∈ gw, w.before args s = true) (hl : (Cond.methodLink own ix yS_probeAndMesh).before args s = true) (hR : 5 + 1 ≤ R.frames ∧ 8 + (5 + 11) + 111 ≤ R.locals) : CallW R s args own "MeshedSpans" ix yS_probeAndMesh prog_1_method_36_code 5 (some .boolean) wS_probeAndMesh { frames := 5, cells := 0, slots := 0, locals := 111 } 0 0 2 := ⟨callB_of (rm := { frames := 5, cells := 0, slots := 0, locals := 111 }) 2 hts (gw_c (ct := .code yS_probeAndMesh prog_1_method_36_code 5 (some .boolean)) gm_415) rfl rfl rfl (hts _ gm_41) hl (by decide +kernel) hR, hts _ gm_414, hts _ gm_15⟩
theorem dS_probeAndMesh_0 : decode prog_1_method_36_code 0 = .ok (.aload_n 0, 1) := by decide +kernel
theorem dS_probeAndMesh_1 : decode prog_1_method_36_code 1 = .ok (.getfield 46, 3) := by decide +kernel
theorem dS_probeAndMesh_4 : decode prog_1_method_36_code 4 = .ok (.iload_n 1, 1) := by decide +kernel
theorem dS_probeAndMesh_5 : decode prog_1_method_36_code 5 = .ok (.iaload, 1) := by decide +kernel
theorem dS_probeAndMesh_6 : decode prog_1_method_36_code 6 = .ok (.invokestatic 152, 3) := by decide +kernel
theorem dS_probeAndMesh_9 : decode prog_1_method_36_code 9 = .ok (.ifCond .eq 15, 3) := by decide +kernel
theorem dS_probeAndMesh_12 : decode prog_1_method_36_code 12 = .ok (.aload_n 0, 1) := by decide +kernel
theorem dS_probeAndMesh_13 : decode prog_1_method_36_code 13 = .ok (.getfield 46, 3) := by decide +kernel
theorem dS_probeAndMesh_16 : decode prog_1_method_36_code 16 = .ok (.iload_n 2, 1) := by decide +kernel
theorem dS_probeAndMesh_17 : decode prog_1_method_36_code 17 = .ok (.iaload, 1) := by decide +kernel
theorem dS_probeAndMesh_18 : decode prog_1_method_36_code 18 = .ok (.invokestatic 152, 3) := by decide +kernel
theorem dS_probeAndMesh_21 : decode prog_1_method_36_code 21 = .ok (.ifCond .ne 5, 3) := by decide +kernel
theorem dS_probeAndMesh_24 : decode prog_1_method_36_code 24 = .ok (.iconst 0, 1) := by decide +kernel
theorem dS_probeAndMesh_25 : decode prog_1_method_36_code 25 = .ok (.ireturn, 1) := by decide +kernel
theorem dS_probeAndMesh_26 : decode prog_1_method_36_code 26 = .ok (.aload_n 0, 1) := by decide +kernel
theorem dS_probeAndMesh_27 : decode prog_1_method_36_code 27 = .ok (.dup, 1) := by decide +kernel
theorem dS_probeAndMesh_28 : decode prog_1_method_36_code 28 = .ok (.getfield 54, 3) := by decide +kernel
theorem dS_probeAndMesh_31 : decode prog_1_method_36_code 31 = .ok (.iconst 1, 1) := by decide +kernel
theorem dS_probeAndMesh_32 : decode prog_1_method_36_code 32 = .ok (.iadd, 1) := by decide +kernel
theorem dS_probeAndMesh_33 : decode prog_1_method_36_code 33 = .ok (.putfield 54, 3) := by decide +kernel
theorem dS_probeAndMesh_36 : decode prog_1_method_36_code 36 = .ok (.aload_n 0, 1) := by decide +kernel
theorem dS_probeAndMesh_37 : decode prog_1_method_36_code 37 = .ok (.getfield 34, 3) := by decide +kernel
theorem dS_probeAndMesh_40 : decode prog_1_method_36_code 40 = .ok (.aload_n 0, 1) := by decide +kernel
theorem dS_probeAndMesh_41 : decode prog_1_method_36_code 41 = .ok (.getfield 46, 3) := by decide +kernel
theorem dS_probeAndMesh_44 : decode prog_1_method_36_code 44 = .ok (.iload_n 1, 1) := by decide +kernel
theorem dS_probeAndMesh_45 : decode prog_1_method_36_code 45 = .ok (.iaload, 1) := by decide +kernel
theorem dS_probeAndMesh_46 : decode prog_1_method_36_code 46 = .ok (.aaload, 1) := by decide +kernel
theorem dS_probeAndMesh_47 : decode prog_1_method_36_code 47 = .ok (.astore_n 3, 1) := by decide +kernel
theorem dS_probeAndMesh_48 : decode prog_1_method_36_code 48 = .ok (.aload_n 0, 1) := by decide +kernel
theorem dS_probeAndMesh_49 : decode prog_1_method_36_code 49 = .ok (.getfield 34, 3) := by decide +kernel
theorem dS_probeAndMesh_52 : decode prog_1_method_36_code 52 = .ok (.aload_n 0, 1) := by decide +kernel
theorem dS_probeAndMesh_53 : decode prog_1_method_36_code 53 = .ok (.getfield 46, 3) := by decide +kernel
theorem dS_probeAndMesh_56 : decode prog_1_method_36_code 56 = .ok (.iload_n 2, 1) := by decide +kernel
theorem dS_probeAndMesh_57 : decode prog_1_method_36_code 57 = .ok (.iaload, 1) := by decide +kernel
theorem dS_probeAndMesh_58 : decode prog_1_method_36_code 58 = .ok (.aaload, 1) := by decide +kernel
theorem dS_probeAndMesh_59 : decode prog_1_method_36_code 59 = .ok (.astore 4, 2) := by decide +kernel
theorem dS_probeAndMesh_61 : decode prog_1_method_36_code 61 = .ok (.aload_n 3, 1) := by decide +kernel
theorem dS_probeAndMesh_62 : decode prog_1_method_36_code 62 = .ok (.aload 4, 2) := by decide +kernel
theorem dS_probeAndMesh_64 : decode prog_1_method_36_code 64 = .ok (.invokevirtual 236, 3) := by decide +kernel
theorem dS_probeAndMesh_67 : decode prog_1_method_36_code 67 = .ok (.ifCond .eq 5, 3) := by decide +kernel
theorem dS_probeAndMesh_70 : decode prog_1_method_36_code 70 = .ok (.iconst 0, 1) := by decide +kernel
theorem dS_probeAndMesh_71 : decode prog_1_method_36_code 71 = .ok (.ireturn, 1) := by decide +kernel
theorem dS_probeAndMesh_72 : decode prog_1_method_36_code 72 = .ok (.aload_n 3, 1) := by decide +kernel
theorem dS_probeAndMesh_73 : decode prog_1_method_36_code 73 = .ok (.invokevirtual 239, 3) := by decide +kernel
theorem dS_probeAndMesh_76 : decode prog_1_method_36_code 76 = .ok (.aload 4, 2) := by decide +kernel
theorem dS_probeAndMesh_78 : decode prog_1_method_36_code 78 = .ok (.invokevirtual 239, 3) := by decide +kernel
theorem dS_probeAndMesh_81 : decode prog_1_method_36_code 81 = .ok (.if_icmp .lt 13, 3) := by decide +kernel
theorem dS_probeAndMesh_84 : decode prog_1_method_36_code 84 = .ok (.aload_n 0, 1) := by decide +kernel
theorem dS_probeAndMesh_85 : decode prog_1_method_36_code 85 = .ok (.aload_n 3, 1) := by decide +kernel
theorem dS_probeAndMesh_86 : decode prog_1_method_36_code 86 = .ok (.aload 4, 2) := by decide +kernel
theorem dS_probeAndMesh_88 : decode prog_1_method_36_code 88 = .ok (.invokevirtual 242, 3) := by decide +kernel
theorem dS_probeAndMesh_91 : decode prog_1_method_36_code 91 = .ok (.goto 10, 3) := by decide +kernel
theorem dS_probeAndMesh_94 : decode prog_1_method_36_code 94 = .ok (.aload_n 0, 1) := by decide +kernel
theorem dS_probeAndMesh_95 : decode prog_1_method_36_code 95 = .ok (.aload 4, 2) := by decide +kernel
theorem dS_probeAndMesh_97 : decode prog_1_method_36_code 97 = .ok (.aload_n 3, 1) := by decide +kernel
theorem dS_probeAndMesh_98 : decode prog_1_method_36_code 98 = .ok (.invokevirtual 242, 3) := by decide +kernel
theorem dS_probeAndMesh_101 : decode prog_1_method_36_code 101 = .ok (.aload_n 0, 1) := by decide +kernel
theorem dS_probeAndMesh_102 : decode prog_1_method_36_code 102 = .ok (.getfield 46, 3) := by decide +kernel
theorem dS_probeAndMesh_105 : decode prog_1_method_36_code 105 = .ok (.iload_n 1, 1) := by decide +kernel
theorem dS_probeAndMesh_106 : decode prog_1_method_36_code 106 = .ok (.iconst (-1), 1) := by decide +kernel
theorem dS_probeAndMesh_107 : decode prog_1_method_36_code 107 = .ok (.iastore, 1) := by decide +kernel
theorem dS_probeAndMesh_108 : decode prog_1_method_36_code 108 = .ok (.aload_n 0, 1) := by decide +kernel
theorem dS_probeAndMesh_109 : decode prog_1_method_36_code 109 = .ok (.getfield 46, 3) := by decide +kernel
theorem dS_probeAndMesh_112 : decode prog_1_method_36_code 112 = .ok (.iload_n 2, 1) := by decide +kernel
theorem dS_probeAndMesh_113 : decode prog_1_method_36_code 113 = .ok (.iconst (-1), 1) := by decide +kernel
theorem dS_probeAndMesh_114 : decode prog_1_method_36_code 114 = .ok (.iastore, 1) := by decide +kernel
theorem dS_probeAndMesh_115 : decode prog_1_method_36_code 115 = .ok (.iconst 1, 1) := by decide +kernel
theorem dS_probeAndMesh_116 : decode prog_1_method_36_code 116 = .ok (.ireturn, 1) := by decide +kernel
def fS_probeAndMesh (a0 : Int32) (a1 : Int32) (g : fl_G) : Option (Int32 × fl_G) :=
  fl_ck (fl_in a0 12) (fl_bd (fS_isPhysical (g 31 (Int32.toNatClampNeg a0)) g) (fun r2 g3 => if r2 = 0 then (some (0, g3)) else (fl_ck (fl_in a1 12) (fl_bd (fS_isPhysical (g3 31 (Int32.toNatClampNeg a1)) g3) (fun r7 g8 => if r7 = 0 then (some (0, g8)) else (fl_ck (fl_in a0 12) (fl_ck (fl_in ((fl_up g8 0 7 ((g8 0 7) + 1)) 31 (Int32.toNatClampNeg a0)) 12) (fl_ck (fl_in a1 12) (fl_ck (fl_in ((fl_up g8 0 7 ((g8 0 7) + 1)) 31 (Int32.toNatClampNeg a1)) 12) (fl_bd (fM_getsInTheWayOf (10 + (Int32.toNatClampNeg ((fl_up g8 0 7 ((g8 0 7) + 1)) 31 (Int32.toNatClampNeg a0)))) (10 + (Int32.toNatClampNeg ((fl_up g8 0 7 ((g8 0 7) + 1)) 31 (Int32.toNatClampNeg a1)))) (fl_up g8 0 7 ((g8 0 7) + 1))) (fun r15 g16 => if r15 = 0 then (fl_bd (fM_usedCells (10 + (Int32.toNatClampNeg ((fl_up g8 0 7 ((g8 0 7) + 1)) 31 (Int32.toNatClampNeg a0)))) g16) (fun r19 g20 => fl_bd (fM_usedCells (10 + (Int32.toNatClampNeg ((fl_up g8 0 7 ((g8 0 7) + 1)) 31 (Int32.toNatClampNeg a1)))) g20) (fun r22 g23 => if r19 < r22 then (fl_bd (fS_join (10 + (Int32.toNatClampNeg ((fl_up g8 0 7 ((g8 0 7) + 1)) 31 (Int32.toNatClampNeg a1)))) (10 + (Int32.toNatClampNeg ((fl_up g8 0 7 ((g8 0 7) + 1)) 31 (Int32.toNatClampNeg a0)))) g23) (fun r26 g27 => fl_ck (fl_in a0 12) (fl_ck (fl_in a1 12) (some (1, (fl_up (fl_up g27 31 (Int32.toNatClampNeg a0) (-1)) 31 (Int32.toNatClampNeg a1) (-1))))))) else (fl_bd (fS_join (10 + (Int32.toNatClampNeg ((fl_up g8 0 7 ((g8 0 7) + 1)) 31 (Int32.toNatClampNeg a0)))) (10 + (Int32.toNatClampNeg ((fl_up g8 0 7 ((g8 0 7) + 1)) 31 (Int32.toNatClampNeg a1)))) g23) (fun r31 g32 => fl_ck (fl_in a0 12) (fl_ck (fl_in a1 12) (some (1, (fl_up (fl_up g32 31 (Int32.toNatClampNeg a0) (-1)) 31 (Int32.toNatClampNeg a1) (-1)))))))))) else (some (0, g16)))))))))))))
set_option maxHeartbeats 4000000 in
set_option maxRecDepth 100000 in
theorem cS_probeAndMesh (l : Launch) (dC : Nat → ClassId) (dI : Nat → Nat → Nat) (ca : Nat → ClassId) (ad : Nat → Nat) (hI : fl_inj 32 ad) (a0 : Int32) (a1 : Int32) {g g1 : fl_G} {r : Int32} (h : fS_probeAndMesh a0 a1 g = some (r, g1)) : Met l yS_probeAndMesh wS_probeAndMesh ({ frames := 5, cells := 0, slots := 0, locals := 111 }) (va_Pc [.ref (ad 0), .int a0, .int a1] (fl_Pre (dC, dI) al_cl 32 (mc_sh ca ad) ad (mc_ty ca) mc_ns g)) (fl_QI (dC, dI) al_cl 32 (mc_sh ca ad) ad r g1) 0 0 (fl_A 32 ad) := by
  refine fl_of (cc := prog_1_method_36_code) (maxL := 5) (ret := (some .boolean)) (by decide) rfl (Nat.le_of_ble_eq_true rfl) ?_
  intro p e s m below meth c ls hx hb hr hml hts hown hlocks hP hK hN hl
  have hown : s.vm.findClass "MeshedSpans" = some m.cls := hown
  have hS : va_S (fl_A 32 ad) s.heap s.heap [] := va_S.rf
  have hl : lv_has ls 5 [(0, .ref (ad 0)), (1, .int a0), (2, .int a1)] := hl
  unfold fS_probeAndMesh at h
  refine lv_aload_n hx hb dS_probeAndMesh_0 rfl (lv_at hl 0 rfl) ?_
  refine mc_get0 (v := .ref (ad 31)) hx hb hts mc_in0 hown hK hP (q := 0) rfl 5 (by decide) (hts _ gm_145) rfl dS_probeAndMesh_1 ?_
  refine lv_iload_n hx hb dS_probeAndMesh_4 rfl (lv_at hl 1 rfl) ?_
  replace h := fl_ck_some h
  obtain ⟨hi1, h⟩ := h
  refine mc_iald hx hb hK hP (q := 31) rfl hi1 dS_probeAndMesh_5 ?_
  replace h := fl_bd_some h
  obtain ⟨r2, g3, hc4, h⟩ := h
  refine fl_calli (va_runS (As := [.int (g 31 (Int32.toNatClampNeg a0))]) (rest := []) ⟨hx, hb, hml, hown, hts⟩ (cS_isPhysical l dC dI ca ad hI (g 31 (Int32.toNatClampNeg a0)) hc4) (kS_isPhysical hts (hts _ gm_261) ⟨Nat.le_of_ble_eq_true rfl, Nat.le_of_ble_eq_true rfl⟩) (fl_preS hK hP hN) rfl rfl hl.1 rfl (lv_room (Nat.le_of_ble_eq_true rfl)) dS_probeAndMesh_6 ⟨Nat.le_refl 0, Nat.le_refl 0⟩) hS (fun H locs hP hS => ?_)
  refine lv_if_eq (tgt := 24) hx hb dS_probeAndMesh_9 (by decide) (fun c5 => ?_) (fun c5 => ?_)
  · replace h := fl_pos c5 h
    refine lv_iconst (v := 0) hx hb dS_probeAndMesh_24 (by decide) ?_
    exact fl_zret hx hb hr hlocks hP hS (Or.inl rfl) h dS_probeAndMesh_25
  · replace h := fl_neg c5 h
    refine lv_aload_n hx hb dS_probeAndMesh_12 rfl (lv_at hl 0 rfl) ?_
    refine mc_get0 (v := .ref (ad 31)) hx hb hts mc_in0 hown hK hP (q := 0) rfl 5 (by decide) (hts _ gm_145) rfl dS_probeAndMesh_13 ?_
    refine lv_iload_n hx hb dS_probeAndMesh_16 rfl (lv_at hl 2 rfl) ?_
    replace h := fl_ck_some h
    obtain ⟨hi6, h⟩ := h
    refine mc_iald hx hb hK hP (q := 31) rfl hi6 dS_probeAndMesh_17 ?_
    replace h := fl_bd_some h
    obtain ⟨r7, g8, hc9, h⟩ := h
    refine fl_calli (va_runS (As := [.int (g3 31 (Int32.toNatClampNeg a1))]) (rest := []) ⟨hx, hb, hml, hown, hts⟩ (cS_isPhysical l dC dI ca ad hI (g3 31 (Int32.toNatClampNeg a1)) hc9) (kS_isPhysical hts (hts _ gm_261) ⟨Nat.le_of_ble_eq_true rfl, Nat.le_of_ble_eq_true rfl⟩) (fl_preS hK hP hN) rfl rfl hl.1 rfl (lv_room (Nat.le_of_ble_eq_true rfl)) dS_probeAndMesh_18 ⟨Nat.le_refl 0, Nat.le_refl 0⟩) hS (fun H locs hP hS => ?_)
    refine lv_if_ne (tgt := 26) hx hb dS_probeAndMesh_21 (by decide) (fun c10 => ?_) (fun c10 => ?_)
    · replace h := fl_neg c10 h
      refine lv_aload_n hx hb dS_probeAndMesh_26 rfl (lv_at hl 0 rfl) ?_
      refine lv_dup hx hb dS_probeAndMesh_27 rfl ?_
      refine mc_get0 (v := .int (g8 0 7)) hx hb hts mc_in0 hown hK hP (q := 0) rfl 7 (by decide) (hts _ gm_147) rfl dS_probeAndMesh_28 ?_
      refine lv_iconst (v := 1) hx hb dS_probeAndMesh_31 (by decide) ?_
      refine lv_iadd hx hb dS_probeAndMesh_32 ?_
      refine mc_put0 (iv := ((g8 0 7) + 1)) hx hb hts mc_in0 hown hK hP hI hS (q := 0) rfl 7 (by decide) (hts _ gm_147) rfl rfl rfl dS_probeAndMesh_33 (fun H locs hP hS => ?_)
      have hP : va_P (dC, dI) al_cl (fl_ws 32 (mc_sh ca ad) ad (fl_up g8 0 7 ((g8 0 7) + 1))) H := hP
      refine lv_aload_n hx hb dS_probeAndMesh_36 rfl (lv_at hl 0 rfl) ?_
      refine mc_get0 (v := .ref (ad 9)) hx hb hts mc_in0 hown hK hP (q := 0) rfl 3 (by decide) (hts _ gm_143) rfl dS_probeAndMesh_37 ?_
      refine lv_aload_n hx hb dS_probeAndMesh_40 rfl (lv_at hl 0 rfl) ?_
      refine mc_get0 (v := .ref (ad 31)) hx hb hts mc_in0 hown hK hP (q := 0) rfl 5 (by decide) (hts _ gm_145) rfl dS_probeAndMesh_41 ?_
      refine lv_iload_n hx hb dS_probeAndMesh_44 rfl (lv_at hl 1 rfl) ?_
      replace h := fl_ck_some h
      obtain ⟨hi11, h⟩ := h
      refine mc_iald hx hb hK hP (q := 31) rfl hi11 dS_probeAndMesh_45 ?_
      replace h := fl_ck_some h
      obtain ⟨hi12, h⟩ := h
      refine mc_aald12 hx hb hK hP hi12 dS_probeAndMesh_46 ?_
      refine lv_astore_n (lv' := [(3, .ref (ad (10 + (Int32.toNatClampNeg ((fl_up g8 0 7 ((g8 0 7) + 1)) 31 (Int32.toNatClampNeg a0)))))), (0, .ref (ad 0)), (1, .int a0), (2, .int a1)]) hx hb dS_probeAndMesh_47 rfl hl (by decide) rfl (fun ls hl => ?_)
      refine lv_aload_n hx hb dS_probeAndMesh_48 rfl (lv_at hl 1 rfl) ?_
      refine mc_get0 (v := .ref (ad 9)) hx hb hts mc_in0 hown hK hP (q := 0) rfl 3 (by decide) (hts _ gm_143) rfl dS_probeAndMesh_49 ?_
      refine lv_aload_n hx hb dS_probeAndMesh_52 rfl (lv_at hl 1 rfl) ?_
      refine mc_get0 (v := .ref (ad 31)) hx hb hts mc_in0 hown hK hP (q := 0) rfl 5 (by decide) (hts _ gm_145) rfl dS_probeAndMesh_53 ?_
      refine lv_iload_n hx hb dS_probeAndMesh_56 rfl (lv_at hl 3 rfl) ?_
      replace h := fl_ck_some h
      obtain ⟨hi13, h⟩ := h
      refine mc_iald hx hb hK hP (q := 31) rfl hi13 dS_probeAndMesh_57 ?_
      replace h := fl_ck_some h
      obtain ⟨hi14, h⟩ := h
      refine mc_aald12 hx hb hK hP hi14 dS_probeAndMesh_58 ?_
      refine lv_astore (lv' := [(4, .ref (ad (10 + (Int32.toNatClampNeg ((fl_up g8 0 7 ((g8 0 7) + 1)) 31 (Int32.toNatClampNeg a1)))))), (3, .ref (ad (10 + (Int32.toNatClampNeg ((fl_up g8 0 7 ((g8 0 7) + 1)) 31 (Int32.toNatClampNeg a0)))))), (0, .ref (ad 0)), (1, .int a0), (2, .int a1)]) hx hb dS_probeAndMesh_59 hl (by decide) rfl (fun ls hl => ?_)
      refine lv_aload_n hx hb dS_probeAndMesh_61 rfl (lv_at hl 1 rfl) ?_
      refine lv_aload hx hb dS_probeAndMesh_62 (lv_at hl 0 rfl) ?_
      replace h := fl_bd_some h
      obtain ⟨r15, g16, hc17, h⟩ := h
      refine fl_calli (va_runV (As := [.ref (ad (10 + (Int32.toNatClampNeg ((fl_up g8 0 7 ((g8 0 7) + 1)) 31 (Int32.toNatClampNeg a1)))))]) (rest := []) ⟨hx, hb, hml, hown, hts⟩ (cM_getsInTheWayOf l dC dI ca ad hI (10 + (Int32.toNatClampNeg ((fl_up g8 0 7 ((g8 0 7) + 1)) 31 (Int32.toNatClampNeg a0)))) (10 + (Int32.toNatClampNeg ((fl_up g8 0 7 ((g8 0 7) + 1)) 31 (Int32.toNatClampNeg a1)))) hc17) (kM_getsInTheWayOf hts (hts _ gm_416) ⟨Nat.le_of_ble_eq_true rfl, Nat.le_of_ble_eq_true rfl⟩) (fl_preV hK hP hN (mc_lt (mc_kdM hi12.2) (by decide)) (mc_sh4 (mc_kdM hi12.2)) rfl) rfl rfl hl.1 rfl (lv_room (Nat.le_of_ble_eq_true rfl)) dS_probeAndMesh_64 ⟨Nat.le_refl 0, Nat.le_refl 0⟩) hS (fun H locs hP hS => ?_)
      refine lv_if_eq (tgt := 72) hx hb dS_probeAndMesh_67 (by decide) (fun c18 => ?_) (fun c18 => ?_)
      · replace h := fl_pos c18 h
        refine lv_aload_n hx hb dS_probeAndMesh_72 rfl (lv_at hl 1 rfl) ?_
        replace h := fl_bd_some h
        obtain ⟨r19, g20, hc21, h⟩ := h
        refine fl_calli (va_runV (As := []) (rest := []) ⟨hx, hb, hml, hown, hts⟩ (cM_usedCells l dC dI ca ad hI (10 + (Int32.toNatClampNeg ((fl_up g8 0 7 ((g8 0 7) + 1)) 31 (Int32.toNatClampNeg a0)))) hc21) (kM_usedCells hts (hts _ gm_420) ⟨Nat.le_of_ble_eq_true rfl, Nat.le_of_ble_eq_true rfl⟩) (fl_preV hK hP hN (mc_lt (mc_kdM hi12.2) (by decide)) (mc_sh4 (mc_kdM hi12.2)) rfl) rfl rfl hl.1 rfl (lv_room (Nat.le_of_ble_eq_true rfl)) dS_probeAndMesh_73 ⟨Nat.le_refl 0, Nat.le_refl 0⟩) hS (fun H locs hP hS => ?_)
        refine lv_aload hx hb dS_probeAndMesh_76 (lv_at hl 0 rfl) ?_
        replace h := fl_bd_some h
        obtain ⟨r22, g23, hc24, h⟩ := h
        refine fl_calli (va_runV (As := []) (rest := [.int r19]) ⟨hx, hb, hml, hown, hts⟩ (cM_usedCells l dC dI ca ad hI (10 + (Int32.toNatClampNeg ((fl_up g8 0 7 ((g8 0 7) + 1)) 31 (Int32.toNatClampNeg a1)))) hc24) (kM_usedCells hts (hts _ gm_420) ⟨Nat.le_of_ble_eq_true rfl, Nat.le_of_ble_eq_true rfl⟩) (fl_preV hK hP hN (mc_lt (mc_kdM hi14.2) (by decide)) (mc_sh4 (mc_kdM hi14.2)) rfl) rfl rfl hl.1 rfl (lv_room (Nat.le_of_ble_eq_true rfl)) dS_probeAndMesh_78 ⟨Nat.le_refl 0, Nat.le_refl 0⟩) hS (fun H locs hP hS => ?_)
        refine lv_icmp_lt (tgt := 94) hx hb dS_probeAndMesh_81 (by decide) (fun c25 => ?_) (fun c25 => ?_)
        · replace h := fl_pos c25 h
          refine lv_aload_n hx hb dS_probeAndMesh_94 rfl (lv_at hl 2 rfl) ?_
          refine lv_aload hx hb dS_probeAndMesh_95 (lv_at hl 0 rfl) ?_
          refine lv_aload_n hx hb dS_probeAndMesh_97 rfl (lv_at hl 1 rfl) ?_
          replace h := fl_bd_some h
          obtain ⟨r26, g27, hc28, h⟩ := h
          refine fl_callv (va_runV (As := [.ref (ad (10 + (Int32.toNatClampNeg ((fl_up g8 0 7 ((g8 0 7) + 1)) 31 (Int32.toNatClampNeg a1))))), .ref (ad (10 + (Int32.toNatClampNeg ((fl_up g8 0 7 ((g8 0 7) + 1)) 31 (Int32.toNatClampNeg a0)))))]) (rest := []) ⟨hx, hb, hml, hown, hts⟩ (cS_join l dC dI ca ad hI (10 + (Int32.toNatClampNeg ((fl_up g8 0 7 ((g8 0 7) + 1)) 31 (Int32.toNatClampNeg a1)))) (10 + (Int32.toNatClampNeg ((fl_up g8 0 7 ((g8 0 7) + 1)) 31 (Int32.toNatClampNeg a0)))) hc28) (kS_join hts (hts _ gm_421) ⟨Nat.le_of_ble_eq_true rfl, Nat.le_of_ble_eq_true rfl⟩) (fl_preV hK hP hN (mc_lt rfl (by decide)) (mc_sh0 rfl) rfl) rfl rfl hl.1 rfl (lv_room (Nat.le_of_ble_eq_true rfl)) dS_probeAndMesh_98 ⟨Nat.le_refl 0, Nat.le_refl 0⟩) hS (fun H locs hP hS => ?_)
          refine lv_aload_n hx hb dS_probeAndMesh_101 rfl (lv_at hl 2 rfl) ?_
          refine mc_get0 (v := .ref (ad 31)) hx hb hts mc_in0 hown hK hP (q := 0) rfl 5 (by decide) (hts _ gm_145) rfl dS_probeAndMesh_102 ?_
          refine lv_iload_n hx hb dS_probeAndMesh_105 rfl (lv_at hl 3 rfl) ?_
          refine lv_iconst (v := (-1)) hx hb dS_probeAndMesh_106 (by decide) ?_
          replace h := fl_ck_some h
          obtain ⟨hi29, h⟩ := h
          refine mc_iast hx hb hK hP hI hS (q := 31) rfl hi29 dS_probeAndMesh_107 (fun H locs hP hS => ?_)
          have hP : va_P (dC, dI) al_cl (fl_ws 32 (mc_sh ca ad) ad (fl_up g27 31 (Int32.toNatClampNeg a0) (-1))) H := hP
          refine lv_aload_n hx hb dS_probeAndMesh_108 rfl (lv_at hl 2 rfl) ?_
          refine mc_get0 (v := .ref (ad 31)) hx hb hts mc_in0 hown hK hP (q := 0) rfl 5 (by decide) (hts _ gm_145) rfl dS_probeAndMesh_109 ?_
          refine lv_iload_n hx hb dS_probeAndMesh_112 rfl (lv_at hl 4 rfl) ?_
          refine lv_iconst (v := (-1)) hx hb dS_probeAndMesh_113 (by decide) ?_
          replace h := fl_ck_some h
          obtain ⟨hi30, h⟩ := h
          refine mc_iast hx hb hK hP hI hS (q := 31) rfl hi30 dS_probeAndMesh_114 (fun H locs hP hS => ?_)
          have hP : va_P (dC, dI) al_cl (fl_ws 32 (mc_sh ca ad) ad (fl_up (fl_up g27 31 (Int32.toNatClampNeg a0) (-1)) 31 (Int32.toNatClampNeg a1) (-1))) H := hP
          refine lv_iconst (v := 1) hx hb dS_probeAndMesh_115 (by decide) ?_
          exact fl_zret hx hb hr hlocks hP hS (Or.inr rfl) h dS_probeAndMesh_116
        · replace h := fl_neg c25 h
          refine lv_aload_n hx hb dS_probeAndMesh_84 rfl (lv_at hl 2 rfl) ?_
          refine lv_aload_n hx hb dS_probeAndMesh_85 rfl (lv_at hl 1 rfl) ?_
          refine lv_aload hx hb dS_probeAndMesh_86 (lv_at hl 0 rfl) ?_
          replace h := fl_bd_some h
          obtain ⟨r31, g32, hc33, h⟩ := h
          refine fl_callv (va_runV (As := [.ref (ad (10 + (Int32.toNatClampNeg ((fl_up g8 0 7 ((g8 0 7) + 1)) 31 (Int32.toNatClampNeg a0))))), .ref (ad (10 + (Int32.toNatClampNeg ((fl_up g8 0 7 ((g8 0 7) + 1)) 31 (Int32.toNatClampNeg a1)))))]) (rest := []) ⟨hx, hb, hml, hown, hts⟩ (cS_join l dC dI ca ad hI (10 + (Int32.toNatClampNeg ((fl_up g8 0 7 ((g8 0 7) + 1)) 31 (Int32.toNatClampNeg a0)))) (10 + (Int32.toNatClampNeg ((fl_up g8 0 7 ((g8 0 7) + 1)) 31 (Int32.toNatClampNeg a1)))) hc33) (kS_join hts (hts _ gm_421) ⟨Nat.le_of_ble_eq_true rfl, Nat.le_of_ble_eq_true rfl⟩) (fl_preV hK hP hN (mc_lt rfl (by decide)) (mc_sh0 rfl) rfl) rfl rfl hl.1 rfl (lv_room (Nat.le_of_ble_eq_true rfl)) dS_probeAndMesh_88 ⟨Nat.le_refl 0, Nat.le_refl 0⟩) hS (fun H locs hP hS => ?_)
          refine lv_goto (tgt := 101) hx hb dS_probeAndMesh_91 (by decide) ?_
          refine lv_aload_n hx hb dS_probeAndMesh_101 rfl (lv_at hl 2 rfl) ?_
          refine mc_get0 (v := .ref (ad 31)) hx hb hts mc_in0 hown hK hP (q := 0) rfl 5 (by decide) (hts _ gm_145) rfl dS_probeAndMesh_102 ?_
          refine lv_iload_n hx hb dS_probeAndMesh_105 rfl (lv_at hl 3 rfl) ?_
          refine lv_iconst (v := (-1)) hx hb dS_probeAndMesh_106 (by decide) ?_
          replace h := fl_ck_some h
          obtain ⟨hi34, h⟩ := h
          refine mc_iast hx hb hK hP hI hS (q := 31) rfl hi34 dS_probeAndMesh_107 (fun H locs hP hS => ?_)
          have hP : va_P (dC, dI) al_cl (fl_ws 32 (mc_sh ca ad) ad (fl_up g32 31 (Int32.toNatClampNeg a0) (-1))) H := hP
          refine lv_aload_n hx hb dS_probeAndMesh_108 rfl (lv_at hl 2 rfl) ?_
          refine mc_get0 (v := .ref (ad 31)) hx hb hts mc_in0 hown hK hP (q := 0) rfl 5 (by decide) (hts _ gm_145) rfl dS_probeAndMesh_109 ?_
          refine lv_iload_n hx hb dS_probeAndMesh_112 rfl (lv_at hl 4 rfl) ?_
          refine lv_iconst (v := (-1)) hx hb dS_probeAndMesh_113 (by decide) ?_
          replace h := fl_ck_some h
          obtain ⟨hi35, h⟩ := h
          refine mc_iast hx hb hK hP hI hS (q := 31) rfl hi35 dS_probeAndMesh_114 (fun H locs hP hS => ?_)
          have hP : va_P (dC, dI) al_cl (fl_ws 32 (mc_sh ca ad) ad (fl_up (fl_up g32 31 (Int32.toNatClampNeg a0) (-1)) 31 (Int32.toNatClampNeg a1) (-1))) H := hP
          refine lv_iconst (v := 1) hx hb dS_probeAndMesh_115 (by decide) ?_
          exact fl_zret hx hb hr hlocks hP hS (Or.inr rfl) h dS_probeAndMesh_116
      · replace h := fl_neg c18 h
        refine lv_iconst (v := 0) hx hb dS_probeAndMesh_70 (by decide) ?_
        exact fl_zret hx hb hr hlocks hP hS (Or.inl rfl) h dS_probeAndMesh_71
    · replace h := fl_pos c10 h
      refine lv_iconst (v := 0) hx hb dS_probeAndMesh_24 (by decide) ?_
      exact fl_zret hx hb hr hlocks hP hS (Or.inl rfl) h dS_probeAndMesh_25
def yS_mesh : MethodName := ⟨"MeshedSpans", "mesh", "(II)I"⟩
def wS_mesh : List Cond := .code yS_mesh prog_1_method_7_code 8 (some .int) :: gw
theorem kS_mesh {R : Room} {s : State} {args : Array Value} {own : String} {ix : Nat} (hts : ∀ w ∈ gw, w.before args s = true) (hl : (Cond.methodLink own ix yS_mesh).before args s = true) (hR : 6 + 1 ≤ R.frames ∧ 8 + (8 + 11) + 135 ≤ R.locals) : CallW R s args own "MeshedSpans" ix yS_mesh prog_1_method_7_code 8 (some .int) wS_mesh { frames := 6, cells := 0, slots := 0, locals := 135 } 0 0 2 := ⟨callB_of (rm := { frames := 6, cells := 0, slots := 0, locals := 135 }) 2 hts (gw_c (ct := .code yS_mesh prog_1_method_7_code 8 (some .int)) gm_401) rfl rfl rfl (hts _ gm_41) hl (by decide +kernel) hR, hts _ gm_399, hts _ gm_400⟩
theorem dS_mesh_0 : decode prog_1_method_7_code 0 = .ok (.iload_n 1, 1) := by decide +kernel
theorem dS_mesh_1 : decode prog_1_method_7_code 1 = .ok (.invokestatic 103, 3) := by decide +kernel
theorem dS_mesh_4 : decode prog_1_method_7_code 4 = .ok (.ifCond .eq 14, 3) := by decide +kernel
theorem dS_mesh_7 : decode prog_1_method_7_code 7 = .ok (.iload_n 2, 1) := by decide +kernel
theorem dS_mesh_8 : decode prog_1_method_7_code 8 = .ok (.iconst 1, 1) := by decide +kernel
theorem dS_mesh_9 : decode prog_1_method_7_code 9 = .ok (.if_icmp .lt 9, 3) := by decide +kernel
theorem dS_mesh_12 : decode prog_1_method_7_code 12 = .ok (.iload_n 2, 1) := by decide +kernel
theorem dS_mesh_13 : decode prog_1_method_7_code 13 = .ok (.bipush 16, 2) := by decide +kernel
theorem dS_mesh_15 : decode prog_1_method_7_code 15 = .ok (.if_icmp .le 5, 3) := by decide +kernel
theorem dS_mesh_18 : decode prog_1_method_7_code 18 = .ok (.iconst (-1), 1) := by decide +kernel
theorem dS_mesh_19 : decode prog_1_method_7_code 19 = .ok (.ireturn, 1) := by decide +kernel
theorem dS_mesh_20 : decode prog_1_method_7_code 20 = .ok (.aload_n 0, 1) := by decide +kernel
theorem dS_mesh_21 : decode prog_1_method_7_code 21 = .ok (.iload_n 1, 1) := by decide +kernel
theorem dS_mesh_22 : decode prog_1_method_7_code 22 = .ok (.invokevirtual 106, 3) := by decide +kernel
theorem dS_mesh_25 : decode prog_1_method_7_code 25 = .ok (.istore_n 3, 1) := by decide +kernel
theorem dS_mesh_26 : decode prog_1_method_7_code 26 = .ok (.aload_n 0, 1) := by decide +kernel
theorem dS_mesh_27 : decode prog_1_method_7_code 27 = .ok (.getfield 14, 3) := by decide +kernel
theorem dS_mesh_30 : decode prog_1_method_7_code 30 = .ok (.aload_n 0, 1) := by decide +kernel
theorem dS_mesh_31 : decode prog_1_method_7_code 31 = .ok (.getfield 46, 3) := by decide +kernel
theorem dS_mesh_34 : decode prog_1_method_7_code 34 = .ok (.iload_n 3, 1) := by decide +kernel
theorem dS_mesh_35 : decode prog_1_method_7_code 35 = .ok (.invokevirtual 109, 3) := by decide +kernel
theorem dS_mesh_38 : decode prog_1_method_7_code 38 = .ok (.iload_n 3, 1) := by decide +kernel
theorem dS_mesh_39 : decode prog_1_method_7_code 39 = .ok (.iconst 2, 1) := by decide +kernel
theorem dS_mesh_40 : decode prog_1_method_7_code 40 = .ok (.idiv, 1) := by decide +kernel
theorem dS_mesh_41 : decode prog_1_method_7_code 41 = .ok (.istore 4, 2) := by decide +kernel
theorem dS_mesh_43 : decode prog_1_method_7_code 43 = .ok (.iconst 0, 1) := by decide +kernel
theorem dS_mesh_44 : decode prog_1_method_7_code 44 = .ok (.istore 5, 2) := by decide +kernel
theorem dS_mesh_46 : decode prog_1_method_7_code 46 = .ok (.aload_n 0, 1) := by decide +kernel
theorem dS_mesh_47 : decode prog_1_method_7_code 47 = .ok (.iconst 0, 1) := by decide +kernel
theorem dS_mesh_48 : decode prog_1_method_7_code 48 = .ok (.putfield 54, 3) := by decide +kernel
theorem dS_mesh_51 : decode prog_1_method_7_code 51 = .ok (.iconst 0, 1) := by decide +kernel
theorem dS_mesh_52 : decode prog_1_method_7_code 52 = .ok (.istore 6, 2) := by decide +kernel
theorem dS_mesh_54 : decode prog_1_method_7_code 54 = .ok (.iload 6, 2) := by decide +kernel
theorem dS_mesh_56 : decode prog_1_method_7_code 56 = .ok (.iload_n 2, 1) := by decide +kernel
theorem dS_mesh_57 : decode prog_1_method_7_code 57 = .ok (.if_icmp .ge 55, 3) := by decide +kernel
theorem dS_mesh_60 : decode prog_1_method_7_code 60 = .ok (.iload 6, 2) := by decide +kernel
theorem dS_mesh_62 : decode prog_1_method_7_code 62 = .ok (.iload 4, 2) := by decide +kernel
theorem dS_mesh_64 : decode prog_1_method_7_code 64 = .ok (.if_icmp .ge 48, 3) := by decide +kernel
theorem dS_mesh_67 : decode prog_1_method_7_code 67 = .ok (.iconst 0, 1) := by decide +kernel
theorem dS_mesh_68 : decode prog_1_method_7_code 68 = .ok (.istore 7, 2) := by decide +kernel
theorem dS_mesh_70 : decode prog_1_method_7_code 70 = .ok (.iload 7, 2) := by decide +kernel
theorem dS_mesh_72 : decode prog_1_method_7_code 72 = .ok (.iload 4, 2) := by decide +kernel
theorem dS_mesh_74 : decode prog_1_method_7_code 74 = .ok (.if_icmp .ge 32, 3) := by decide +kernel
theorem dS_mesh_77 : decode prog_1_method_7_code 77 = .ok (.aload_n 0, 1) := by decide +kernel
theorem dS_mesh_78 : decode prog_1_method_7_code 78 = .ok (.iload 7, 2) := by decide +kernel
theorem dS_mesh_80 : decode prog_1_method_7_code 80 = .ok (.iload 4, 2) := by decide +kernel
theorem dS_mesh_82 : decode prog_1_method_7_code 82 = .ok (.iload 7, 2) := by decide +kernel
theorem dS_mesh_84 : decode prog_1_method_7_code 84 = .ok (.iload 6, 2) := by decide +kernel
theorem dS_mesh_86 : decode prog_1_method_7_code 86 = .ok (.iadd, 1) := by decide +kernel
theorem dS_mesh_87 : decode prog_1_method_7_code 87 = .ok (.iload 4, 2) := by decide +kernel
theorem dS_mesh_89 : decode prog_1_method_7_code 89 = .ok (.irem, 1) := by decide +kernel
theorem dS_mesh_90 : decode prog_1_method_7_code 90 = .ok (.iadd, 1) := by decide +kernel
theorem dS_mesh_91 : decode prog_1_method_7_code 91 = .ok (.invokevirtual 113, 3) := by decide +kernel
theorem dS_mesh_94 : decode prog_1_method_7_code 94 = .ok (.ifCond .eq 6, 3) := by decide +kernel
theorem dS_mesh_97 : decode prog_1_method_7_code 97 = .ok (.iinc 5 1, 3) := by decide +kernel
theorem dS_mesh_100 : decode prog_1_method_7_code 100 = .ok (.iinc 7 1, 3) := by decide +kernel
theorem dS_mesh_103 : decode prog_1_method_7_code 103 = .ok (.goto (-33), 3) := by decide +kernel
theorem dS_mesh_106 : decode prog_1_method_7_code 106 = .ok (.iinc 6 1, 3) := by decide +kernel
theorem dS_mesh_109 : decode prog_1_method_7_code 109 = .ok (.goto (-55), 3) := by decide +kernel
theorem dS_mesh_112 : decode prog_1_method_7_code 112 = .ok (.iload 5, 2) := by decide +kernel
theorem dS_mesh_114 : decode prog_1_method_7_code 114 = .ok (.ireturn, 1) := by decide +kernel
def fS_mesh_B70 (rec : Int32 → Int32 → Int32 → Int32 → Int32 → Int32 → Int32 → fl_G → Option ((Int32 × Int32) × fl_G)) (v7 : Int32) (v6 : Int32) (v5 : Int32) (v4 : Int32) (v3 : Int32) (v1 : Int32) (v2 : Int32) (g : fl_G) : Option ((Int32 × Int32) × fl_G) :=
  if v4 ≤ v7 then (some ((v7, v5), g)) else (fl_ck (¬ v4 = 0) (fl_bd (fS_probeAndMesh v7 (v4 + (fl_rem (v7 + v6) v4)) g) (fun r19 g20 => if r19 = 0 then (rec (v7 + 1) v6 v5 v4 v3 v1 v2 g20) else (rec (v7 + 1) v6 (v5 + 1) v4 v3 v1 v2 g20))))
def fS_mesh_L70 : Nat → Int32 → Int32 → Int32 → Int32 → Int32 → Int32 → Int32 → fl_G → Option ((Int32 × Int32) × fl_G)
  | 0, _, _, _, _, _, _, _, _ => none
  | n + 1, v7, v6, v5, v4, v3, v1, v2, g => fS_mesh_B70 (fS_mesh_L70 n) v7 v6 v5 v4 v3 v1 v2 g
def fS_mesh_B54 (rec : Int32 → Int32 → Int32 → Int32 → Int32 → Int32 → fl_G → Option ((Int32 × Int32) × fl_G)) (v6 : Int32) (v5 : Int32) (v4 : Int32) (v3 : Int32) (v1 : Int32) (v2 : Int32) (g : fl_G) : Option ((Int32 × Int32) × fl_G) :=
  if v2 ≤ v6 then (some ((v6, v5), g)) else (if v4 ≤ v6 then (some ((v6, v5), g)) else (fl_bd (fS_mesh_L70 1000 0 v6 v5 v4 v3 v1 v2 g) (fun r23 g24 => rec (v6 + 1) r23.2 v4 v3 v1 v2 g24)))
def fS_mesh_L54 : Nat → Int32 → Int32 → Int32 → Int32 → Int32 → Int32 → fl_G → Option ((Int32 × Int32) × fl_G)
  | 0, _, _, _, _, _, _, _ => none
  | n + 1, v6, v5, v4, v3, v1, v2, g => fS_mesh_B54 (fS_mesh_L54 n) v6 v5 v4 v3 v1 v2 g
def fS_mesh (a0 : Int32) (a1 : Int32) (g : fl_G) : Option (Int32 × fl_G) :=
  fl_bd (fS_isClass a0 g) (fun r1 g2 => if r1 = 0 then (some ((-1), g2)) else (if a1 < 1 then (some ((-1), g2)) else (if a1 ≤ 16 then (fl_bd (fS_gatherMeshable a0 g2) (fun r7 g8 => fl_bd (fD_shuffle 31 r7 g8) (fun r10 g11 => fl_bd (fS_mesh_L54 1000 0 0 (r7 / 2) r7 a0 a1 (fl_up g11 0 7 0)) (fun r26 g27 => some (r26.2, g27))))) else (some ((-1), g2)))))
set_option maxHeartbeats 4000000 in
set_option maxRecDepth 100000 in
theorem cS_mesh (l : Launch) (dC : Nat → ClassId) (dI : Nat → Nat → Nat) (ca : Nat → ClassId) (ad : Nat → Nat) (hI : fl_inj 32 ad) (a0 : Int32) (a1 : Int32) {g g1 : fl_G} {r : Int32} (h : fS_mesh a0 a1 g = some (r, g1)) : Met l yS_mesh wS_mesh ({ frames := 6, cells := 0, slots := 0, locals := 135 }) (va_Pc [.ref (ad 0), .int a0, .int a1] (fl_Pre (dC, dI) al_cl 32 (mc_sh ca ad) ad (mc_ty ca) mc_ns g)) (fl_QI (dC, dI) al_cl 32 (mc_sh ca ad) ad r g1) 0 0 (fl_A 32 ad) := by
  refine fl_of (cc := prog_1_method_7_code) (maxL := 8) (ret := (some .int)) (by decide) rfl (Nat.le_of_ble_eq_true rfl) ?_
  intro p e s m below meth c ls hx hb hr hml hts hown hlocks hP hK hN hl
  have hown : s.vm.findClass "MeshedSpans" = some m.cls := hown
  have hS : va_S (fl_A 32 ad) s.heap s.heap [] := va_S.rf
  have hl : lv_has ls 8 [(0, .ref (ad 0)), (1, .int a0), (2, .int a1)] := hl
  unfold fS_mesh at h
  refine lv_iload_n hx hb dS_mesh_0 rfl (lv_at hl 1 rfl) ?_
  replace h := fl_bd_some h
  obtain ⟨r1, g2, hc3, h⟩ := h
  refine fl_calli (va_runS (As := [.int a0]) (rest := []) ⟨hx, hb, hml, hown, hts⟩ (cS_isClass l dC dI ca ad hI a0 hc3) (kS_isClass hts (hts _ gm_402) ⟨Nat.le_of_ble_eq_true rfl, Nat.le_of_ble_eq_true rfl⟩) (fl_preS hK hP hN) rfl rfl hl.1 rfl (lv_room (Nat.le_of_ble_eq_true rfl)) dS_mesh_1 ⟨Nat.le_refl 0, Nat.le_refl 0⟩) hS (fun H locs hP hS => ?_)
  refine lv_if_eq (tgt := 18) hx hb dS_mesh_4 (by decide) (fun c4 => ?_) (fun c4 => ?_)
  · replace h := fl_pos c4 h
    refine lv_iconst (v := (-1)) hx hb dS_mesh_18 (by decide) ?_
    exact fl_iret hx hb hr hlocks hP hS h dS_mesh_19
  · replace h := fl_neg c4 h
    refine lv_iload_n hx hb dS_mesh_7 rfl (lv_at hl 2 rfl) ?_
    refine lv_iconst (v := 1) hx hb dS_mesh_8 (by decide) ?_
    refine lv_icmp_lt (tgt := 18) hx hb dS_mesh_9 (by decide) (fun c5 => ?_) (fun c5 => ?_)
    · replace h := fl_pos c5 h
      refine lv_iconst (v := (-1)) hx hb dS_mesh_18 (by decide) ?_
      exact fl_iret hx hb hr hlocks hP hS h dS_mesh_19
    · replace h := fl_neg c5 h
      refine lv_iload_n hx hb dS_mesh_12 rfl (lv_at hl 2 rfl) ?_
      refine lv_bipush (v := 16) hx hb dS_mesh_13 (by decide) ?_
      refine lv_icmp_le (tgt := 20) hx hb dS_mesh_15 (by decide) (fun c6 => ?_) (fun c6 => ?_)
      · replace h := fl_pos c6 h
        refine lv_aload_n hx hb dS_mesh_20 rfl (lv_at hl 0 rfl) ?_
        refine lv_iload_n hx hb dS_mesh_21 rfl (lv_at hl 1 rfl) ?_
        replace h := fl_bd_some h
        obtain ⟨r7, g8, hc9, h⟩ := h
        refine fl_calli (va_runV (As := [.int a0]) (rest := []) ⟨hx, hb, hml, hown, hts⟩ (cS_gatherMeshable l dC dI ca ad hI a0 hc9) (kS_gatherMeshable hts (hts _ gm_403) ⟨Nat.le_of_ble_eq_true rfl, Nat.le_of_ble_eq_true rfl⟩) (fl_preV hK hP hN (mc_lt rfl (by decide)) (mc_sh0 rfl) rfl) rfl rfl hl.1 rfl (lv_room (Nat.le_of_ble_eq_true rfl)) dS_mesh_22 ⟨Nat.le_refl 0, Nat.le_refl 0⟩) hS (fun H locs hP hS => ?_)
        refine lv_istore_n (lv' := [(3, .int r7), (0, .ref (ad 0)), (1, .int a0), (2, .int a1)]) hx hb dS_mesh_25 rfl hl (by decide) rfl (fun ls hl => ?_)
        refine lv_aload_n hx hb dS_mesh_26 rfl (lv_at hl 1 rfl) ?_
        refine mc_get0 (v := .ref (ad 1)) hx hb hts mc_in0 hown hK hP (q := 0) rfl 0 (by decide) (hts _ gm_140) rfl dS_mesh_27 ?_
        refine lv_aload_n hx hb dS_mesh_30 rfl (lv_at hl 1 rfl) ?_
        refine mc_get0 (v := .ref (ad 31)) hx hb hts mc_in0 hown hK hP (q := 0) rfl 5 (by decide) (hts _ gm_145) rfl dS_mesh_31 ?_
        refine lv_iload_n hx hb dS_mesh_34 rfl (lv_at hl 0 rfl) ?_
        replace h := fl_bd_some h
        obtain ⟨r10, g11, hc12, h⟩ := h
        refine fl_callv (va_runV (As := [.ref (ad 31), .int r7]) (rest := []) ⟨hx, hb, hml, hown, hts⟩ (cD_shuffle l dC dI ca ad hI 31 r7 hc12) (kD_shuffle hts (hts _ gm_412) ⟨Nat.le_of_ble_eq_true rfl, Nat.le_of_ble_eq_true rfl⟩) (fl_preV hK hP hN (mc_lt rfl (by decide)) (mc_sh1 rfl) rfl) rfl rfl hl.1 rfl (lv_room (Nat.le_of_ble_eq_true rfl)) dS_mesh_35 ⟨Nat.le_refl 0, Nat.le_refl 0⟩) hS (fun H locs hP hS => ?_)
        refine lv_iload_n hx hb dS_mesh_38 rfl (lv_at hl 0 rfl) ?_
        refine lv_iconst (v := 2) hx hb dS_mesh_39 (by decide) ?_
        refine lv_idiv hx hb dS_mesh_40 (by decide) ?_
        refine lv_istore (lv' := [(4, .int (r7 / 2)), (3, .int r7), (0, .ref (ad 0)), (1, .int a0), (2, .int a1)]) hx hb dS_mesh_41 hl (by decide) rfl (fun ls hl => ?_)
        refine lv_iconst (v := 0) hx hb dS_mesh_43 (by decide) ?_
        refine lv_istore (lv' := [(5, .int 0), (4, .int (r7 / 2)), (3, .int r7), (0, .ref (ad 0)), (1, .int a0), (2, .int a1)]) hx hb dS_mesh_44 hl (by decide) rfl (fun ls hl => ?_)
        refine lv_aload_n hx hb dS_mesh_46 rfl (lv_at hl 3 rfl) ?_
        refine lv_iconst (v := 0) hx hb dS_mesh_47 (by decide) ?_
        refine mc_put0 (iv := 0) hx hb hts mc_in0 hown hK hP hI hS (q := 0) rfl 7 (by decide) (hts _ gm_147) rfl rfl rfl dS_mesh_48 (fun H locs hP hS => ?_)
        have hP : va_P (dC, dI) al_cl (fl_ws 32 (mc_sh ca ad) ad (fl_up g11 0 7 0)) H := hP
        refine lv_iconst (v := 0) hx hb dS_mesh_51 (by decide) ?_
        refine lv_istore (lv' := [(6, .int 0), (5, .int 0), (4, .int (r7 / 2)), (3, .int r7), (0, .ref (ad 0)), (1, .int a0), (2, .int a1)]) hx hb dS_mesh_52 hl (by decide) rfl (fun ls hl => ?_)
        have loop13 : ∀ (n : Nat) (v6 : Int32) (v5 : Int32) (v4 : Int32) (v3 : Int32) (v1 : Int32) (v2 : Int32) (g : fl_G) (z : ((Int32 × Int32) × fl_G)) (H : Heap) (locs : List Loc) (ls : Array Slot), fS_mesh_L54 n v6 v5 v4 v3 v1 v2 g = some z → va_P (dC, dI) al_cl (fl_ws 32 (mc_sh ca ad) ad g) H → va_S (fl_A 32 ad) s.heap H locs → lv_has ls 8 [(6, .int v6), (5, .int v5), (4, .int v4), (3, .int v3), (0, .ref (ad 0)), (1, .int v1), (2, .int v2)] → (∀ (H : Heap) (locs : List Loc) (ls : Array Slot), va_P (dC, dI) al_cl (fl_ws 32 (mc_sh ca ad) ad z.2) H → va_S (fl_A 32 ad) s.heap H locs → lv_has ls 8 [(6, .int z.1.1), (5, .int z.1.2), (4, .int v4), (3, .int v3), (0, .ref (ad 0)), (1, .int v1), (2, .int v2)] → W p l e ({ frames := 6, cells := 0, slots := 0, locals := 135 }) s m ([.ref (ad 0), .int a0, .int a1] : List Value).toArray below meth c H locs 0 0 (MQ below (fl_QI (dC, dI) al_cl 32 (mc_sh ca ad) ad r g1) ([.ref (ad 0), .int a0, .int a1] : List Value).toArray s 0 0 (fl_A 32 ad)) (F0 m 112 ls [])) → W p l e ({ frames := 6, cells := 0, slots := 0, locals := 135 }) s m ([.ref (ad 0), .int a0, .int a1] : List Value).toArray below meth c H locs 0 0 (MQ below (fl_QI (dC, dI) al_cl 32 (mc_sh ca ad) ad r g1) ([.ref (ad 0), .int a0, .int a1] : List Value).toArray s 0 0 (fl_A 32 ad)) (F0 m 54 ls []) := by
          intro n
          clear h hP hS hl
          induction n with
          | zero => intro v6 v5 v4 v3 v1 v2 g z H locs ls h; cases h
          | succ n ih13 =>
            intro v6 v5 v4 v3 v1 v2 g z H locs ls h hP hS hl K13
            have h : fS_mesh_B54 (fS_mesh_L54 n) v6 v5 v4 v3 v1 v2 g = some z := h
            unfold fS_mesh_B54 at h
            refine lv_iload hx hb dS_mesh_54 (lv_at hl 0 rfl) ?_
            refine lv_iload_n hx hb dS_mesh_56 rfl (lv_at hl 6 rfl) ?_
            refine lv_icmp_ge (tgt := 112) hx hb dS_mesh_57 (by decide) (fun c14 => ?_) (fun c14 => ?_)
            · replace h := fl_pos c14 h
              cases h
              exact K13 _ _ _ hP hS (lv_sub hl [0, 1, 2, 3, 4, 5, 6] rfl)
            · replace h := fl_neg c14 h
              refine lv_iload hx hb dS_mesh_60 (lv_at hl 0 rfl) ?_
              refine lv_iload hx hb dS_mesh_62 (lv_at hl 2 rfl) ?_
              refine lv_icmp_ge (tgt := 112) hx hb dS_mesh_64 (by decide) (fun c15 => ?_) (fun c15 => ?_)
              · replace h := fl_pos c15 h
                cases h
                exact K13 _ _ _ hP hS (lv_sub hl [0, 1, 2, 3, 4, 5, 6] rfl)
              · replace h := fl_neg c15 h
                refine lv_iconst (v := 0) hx hb dS_mesh_67 (by decide) ?_
                refine lv_istore (lv' := [(7, .int 0), (6, .int v6), (5, .int v5), (4, .int v4), (3, .int v3), (0, .ref (ad 0)), (1, .int v1), (2, .int v2)]) hx hb dS_mesh_68 hl (by decide) rfl (fun ls hl => ?_)
                have loop16 : ∀ (n : Nat) (v7 : Int32) (v6 : Int32) (v5 : Int32) (v4 : Int32) (v3 : Int32) (v1 : Int32) (v2 : Int32) (g : fl_G) (z : ((Int32 × Int32) × fl_G)) (H : Heap) (locs : List Loc) (ls : Array Slot), fS_mesh_L70 n v7 v6 v5 v4 v3 v1 v2 g = some z → va_P (dC, dI) al_cl (fl_ws 32 (mc_sh ca ad) ad g) H → va_S (fl_A 32 ad) s.heap H locs → lv_has ls 8 [(7, .int v7), (6, .int v6), (5, .int v5), (4, .int v4), (3, .int v3), (0, .ref (ad 0)), (1, .int v1), (2, .int v2)] → (∀ (H : Heap) (locs : List Loc) (ls : Array Slot), va_P (dC, dI) al_cl (fl_ws 32 (mc_sh ca ad) ad z.2) H → va_S (fl_A 32 ad) s.heap H locs → lv_has ls 8 [(7, .int z.1.1), (6, .int v6), (5, .int z.1.2), (4, .int v4), (3, .int v3), (0, .ref (ad 0)), (1, .int v1), (2, .int v2)] → W p l e ({ frames := 6, cells := 0, slots := 0, locals := 135 }) s m ([.ref (ad 0), .int a0, .int a1] : List Value).toArray below meth c H locs 0 0 (MQ below (fl_QI (dC, dI) al_cl 32 (mc_sh ca ad) ad r g1) ([.ref (ad 0), .int a0, .int a1] : List Value).toArray s 0 0 (fl_A 32 ad)) (F0 m 106 ls [])) → W p l e ({ frames := 6, cells := 0, slots := 0, locals := 135 }) s m ([.ref (ad 0), .int a0, .int a1] : List Value).toArray below meth c H locs 0 0 (MQ below (fl_QI (dC, dI) al_cl 32 (mc_sh ca ad) ad r g1) ([.ref (ad 0), .int a0, .int a1] : List Value).toArray s 0 0 (fl_A 32 ad)) (F0 m 70 ls []) := by
                  intro n
                  clear h hP hS hl
                  induction n with
                  | zero => intro v7 v6 v5 v4 v3 v1 v2 g z H locs ls h; cases h
                  | succ n ih16 =>
                    intro v7 v6 v5 v4 v3 v1 v2 g z H locs ls h hP hS hl K16
                    have h : fS_mesh_B70 (fS_mesh_L70 n) v7 v6 v5 v4 v3 v1 v2 g = some z := h
                    unfold fS_mesh_B70 at h
                    refine lv_iload hx hb dS_mesh_70 (lv_at hl 0 rfl) ?_
                    refine lv_iload hx hb dS_mesh_72 (lv_at hl 3 rfl) ?_
                    refine lv_icmp_ge (tgt := 106) hx hb dS_mesh_74 (by decide) (fun c17 => ?_) (fun c17 => ?_)
                    · replace h := fl_pos c17 h
                      cases h
                      exact K16 _ _ _ hP hS (lv_sub hl [0, 1, 2, 3, 4, 5, 6, 7] rfl)
                    · replace h := fl_neg c17 h
                      refine lv_aload_n hx hb dS_mesh_77 rfl (lv_at hl 5 rfl) ?_
                      refine lv_iload hx hb dS_mesh_78 (lv_at hl 0 rfl) ?_
                      refine lv_iload hx hb dS_mesh_80 (lv_at hl 3 rfl) ?_
                      refine lv_iload hx hb dS_mesh_82 (lv_at hl 0 rfl) ?_
                      refine lv_iload hx hb dS_mesh_84 (lv_at hl 1 rfl) ?_
                      refine lv_iadd hx hb dS_mesh_86 ?_
                      refine lv_iload hx hb dS_mesh_87 (lv_at hl 3 rfl) ?_
                      replace h := fl_ck_some h
                      obtain ⟨hz18, h⟩ := h
                      refine lv_irem hx hb dS_mesh_89 hz18 ?_
                      refine lv_iadd hx hb dS_mesh_90 ?_
                      replace h := fl_bd_some h
                      obtain ⟨r19, g20, hc21, h⟩ := h
                      refine fl_calli (va_runV (As := [.int v7, .int (v4 + (fl_rem (v7 + v6) v4))]) (rest := []) ⟨hx, hb, hml, hown, hts⟩ (cS_probeAndMesh l dC dI ca ad hI v7 (v4 + (fl_rem (v7 + v6) v4)) hc21) (kS_probeAndMesh hts (hts _ gm_413) ⟨Nat.le_of_ble_eq_true rfl, Nat.le_of_ble_eq_true rfl⟩) (fl_preV hK hP hN (mc_lt rfl (by decide)) (mc_sh0 rfl) rfl) rfl rfl hl.1 rfl (lv_room (Nat.le_of_ble_eq_true rfl)) dS_mesh_91 ⟨Nat.le_refl 0, Nat.le_refl 0⟩) hS (fun H locs hP hS => ?_)
                      refine lv_if_eq (tgt := 100) hx hb dS_mesh_94 (by decide) (fun c22 => ?_) (fun c22 => ?_)
                      · replace h := fl_pos c22 h
                        refine lv_iinc (v := (v7 + 1)) (lv' := [(7, .int (v7 + 1)), (6, .int v6), (5, .int v5), (4, .int v4), (3, .int v3), (0, .ref (ad 0)), (1, .int v1), (2, .int v2)]) hx hb dS_mesh_100 hl (k := 0) rfl rfl (by decide) rfl (fun ls hl => ?_)
                        refine lv_goto (tgt := 70) hx hb dS_mesh_103 (by decide) ?_
                        exact ih16 (v7 + 1) v6 v5 v4 v3 v1 v2 _ _ _ _ _ h hP hS (lv_sub hl [0, 1, 2, 3, 4, 5, 6, 7] rfl) K16
                      · replace h := fl_neg c22 h
                        refine lv_iinc (v := (v5 + 1)) (lv' := [(5, .int (v5 + 1)), (7, .int v7), (6, .int v6), (4, .int v4), (3, .int v3), (0, .ref (ad 0)), (1, .int v1), (2, .int v2)]) hx hb dS_mesh_97 hl (k := 2) rfl rfl (by decide) rfl (fun ls hl => ?_)
                        refine lv_iinc (v := (v7 + 1)) (lv' := [(7, .int (v7 + 1)), (5, .int (v5 + 1)), (6, .int v6), (4, .int v4), (3, .int v3), (0, .ref (ad 0)), (1, .int v1), (2, .int v2)]) hx hb dS_mesh_100 hl (k := 1) rfl rfl (by decide) rfl (fun ls hl => ?_)
                        refine lv_goto (tgt := 70) hx hb dS_mesh_103 (by decide) ?_
                        exact ih16 (v7 + 1) v6 (v5 + 1) v4 v3 v1 v2 _ _ _ _ _ h hP hS (lv_sub hl [0, 2, 1, 3, 4, 5, 6, 7] rfl) K16
                obtain ⟨r23, g24, hc25, h⟩ := fl_bd_some h
                refine loop16 1000 0 v6 v5 v4 v3 v1 v2 _ (r23, g24) _ _ _ hc25 hP hS (lv_sub hl [0, 1, 2, 3, 4, 5, 6, 7] rfl) (fun H locs ls hP hS hl => ?_)
                have hP : va_P (dC, dI) al_cl (fl_ws 32 (mc_sh ca ad) ad g24) H := hP
                have hl : lv_has ls 8 [(7, .int r23.1), (6, .int v6), (5, .int r23.2), (4, .int v4), (3, .int v3), (0, .ref (ad 0)), (1, .int v1), (2, .int v2)] := hl
                refine lv_iinc (v := (v6 + 1)) (lv' := [(6, .int (v6 + 1)), (7, .int r23.1), (5, .int r23.2), (4, .int v4), (3, .int v3), (0, .ref (ad 0)), (1, .int v1), (2, .int v2)]) hx hb dS_mesh_106 hl (k := 1) rfl rfl (by decide) rfl (fun ls hl => ?_)
                refine lv_goto (tgt := 54) hx hb dS_mesh_109 (by decide) ?_
                exact ih13 (v6 + 1) r23.2 v4 v3 v1 v2 _ _ _ _ _ h hP hS (lv_sub hl [0, 2, 3, 4, 5, 6, 7] rfl) K13
        obtain ⟨r26, g27, hc28, h⟩ := fl_bd_some h
        refine loop13 1000 0 0 (r7 / 2) r7 a0 a1 _ (r26, g27) _ _ _ hc28 hP hS (lv_sub hl [0, 1, 2, 3, 4, 5, 6] rfl) (fun H locs ls hP hS hl => ?_)
        have hP : va_P (dC, dI) al_cl (fl_ws 32 (mc_sh ca ad) ad g27) H := hP
        have hl : lv_has ls 8 [(6, .int r26.1), (5, .int r26.2), (4, .int (r7 / 2)), (3, .int r7), (0, .ref (ad 0)), (1, .int a0), (2, .int a1)] := hl
        refine lv_iload hx hb dS_mesh_112 (lv_at hl 1 rfl) ?_
        exact fl_iret hx hb hr hlocks hP hS h dS_mesh_114
      · replace h := fl_neg c6 h
        refine lv_iconst (v := (-1)) hx hb dS_mesh_18 (by decide) ?_
        exact fl_iret hx hb hr hlocks hP hS h dS_mesh_19
