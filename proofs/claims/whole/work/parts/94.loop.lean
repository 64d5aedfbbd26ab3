/-! the law's loop -/
theorem lw_exit {i L : Nat} (hi : i < 2 ^ 30) (hL : L ≤ 3072) (h : ¬ (nI L - 6 < nI i)) : i + 6 ≤ L := by
  by_cases h6 : 6 ≤ L
  · have e : nI L - 6 = nI (L - 6) := by
      obtain ⟨k, rfl⟩ : ∃ k, L = k + 6 := ⟨L - 6, by omega⟩
      rw [show nI (k + 6) = nI k + 6 from (nI_add k 6).symm, Int32.add_sub_cancel, Nat.add_sub_cancel]
    rw [e] at h
    have h2 : nI i ≤ nI (L - 6) := Int32.not_lt.mp h
    rw [nI_leI (by omega) (by omega)] at h2
    omega
  · exfalso
    apply h
    have h0 : (0 : Int32) ≤ nI i := (nI_leI (a := 0) (b := i) (by omega) (by omega)).mpr (by omega)
    rcases (show L = 0 ∨ L = 1 ∨ L = 2 ∨ L = 3 ∨ L = 4 ∨ L = 5 by omega) with rfl | rfl | rfl | rfl | rfl | rfl
    all_goals exact Int32.lt_of_lt_of_le (by decide) h0
theorem vin_nI {n L : Nat} (hn : n < L) (hL : L ≤ 3072) : vp_in (nI n) L := okI_in (ok_nI hn (by omega))
section LOOP
variable {p : Program} {l : Launch} {e : Env} {s : State} {m : MethodId} {below : List Frame} {meth : Method} {c : Code} {Q : State → Prop} {D : va_G} {cy : Nat → ClassId} {ad : (Nat → Nat) × (Nat → Nat)} {sa : Nat} {A : Nat → Prop} {b L : Nat} {xs : Nat → Int32} {aN aM aO : Nat}
set_option maxHeartbeats 4000000 in
set_option maxRecDepth 100000 in
theorem law_loop (hfl : l.stackTraces = false) (hC : LC p s m c D cy ad sa A b L xs) (hL : L ≤ 3072)
    (E : ∀ (H : Heap) (locs : List Loc) (ls : Array Slot), va_S A s.heap H locs → W p l e room_1 s m #[Value.ref b] below meth c H locs 601024 7293034 Q (F0 m 1793 ls [.int 1])) :
    ∀ (k i C0 S0 : Nat), L < i + 6 * k + 6 → i ≤ 6 * 600 → C0 + k ≤ 601024 → S0 + 6 * k ≤ 7293034 → ∀ (H : Heap) (locs : List Loc) (ls : Array Slot), LI D cy A aN aM aO H → va_S A s.heap H locs → lv_has ls 7 [(0, .ref b), (1, .ref aN), (2, .ref aM), (3, .ref aO), (4, .int (nI i))] → W p l e room_1 s m #[Value.ref b] below meth c H locs C0 S0 Q (F0 m 23 ls []) := by
  intro k
  induction k with
  | zero =>
    intro i C0 S0 hk hi hc hs H locs ls hI hS hl
    obtain ⟨hx, hb, hml, hown, ht0, hN, hK, hSt, hLd, hA, hX, hbl, hbA⟩ := hC
    refine lv_iload hx hb dL_law_23 (lv_at hl 4 rfl) ?_
    refine lv_aload_n hx hb dL_law_25 rfl (lv_at hl 0 rfl) ?_
    refine va_slen hx hb hX hbl hbA hS dL_law_26 ?_
    refine lv_bipush (v := 6) hx hb dL_law_27 (by decide) ?_
    refine lv_isub hx hb dL_law_29 ?_
    refine lv_icmp_gt (tgt := 1792) hx hb dL_law_30 (by decide) (fun c30 => ?_) (fun c30 => ?_)
    · refine lv_iconst (v := 1) hx hb dL_law_1792 (by decide) ?_
      exact W.widen (k := 601024) (n := 7293034) (by omega) (by omega) (E H locs ls hS)
    · exact absurd (lw_exit (by omega) hL c30) (by omega)
  | succ k ih =>
    intro i C0 S0 hk hi hc hs H locs ls hI hS hl
    have hC0 := hC
    obtain ⟨hx, hb, hml, hown, ht0, hN, hK, hSt, hLd, hA, hX, hbl, hbA⟩ := hC
    refine lv_iload hx hb dL_law_23 (lv_at hl 4 rfl) ?_
    refine lv_aload_n hx hb dL_law_25 rfl (lv_at hl 0 rfl) ?_
    refine va_slen hx hb hX hbl hbA hS dL_law_26 ?_
    refine lv_bipush (v := 6) hx hb dL_law_27 (by decide) ?_
    refine lv_isub hx hb dL_law_29 ?_
    refine lv_icmp_gt (tgt := 1792) hx hb dL_law_30 (by decide) (fun c30 => ?_) (fun c30 => ?_)
    · refine lv_iconst (v := 1) hx hb dL_law_1792 (by decide) ?_
      exact W.widen (k := 601024) (n := 7293034) (by omega) (by omega) (E H locs ls hS)
    have hiL := lw_exit (by omega) hL c30
    have h0 : vp_in (nI i) L := vin_nI (by omega) hL
    have h1 : vp_in (nI i + 1) L := by rw [show nI i + 1 = nI (i + 1) from nI_add i 1]; exact vin_nI (by omega) hL
    have h2 : vp_in (nI i + 2) L := by rw [show nI i + 2 = nI (i + 2) from nI_add i 2]; exact vin_nI (by omega) hL
    have h3 : vp_in (nI i + 3) L := by rw [show nI i + 3 = nI (i + 3) from nI_add i 3]; exact vin_nI (by omega) hL
    have h4 : vp_in (nI i + 4) L := by rw [show nI i + 4 = nI (i + 4) from nI_add i 4]; exact vin_nI (by omega) hL
    have h5 : vp_in (nI i + 5) L := by rw [show nI i + 5 = nI (i + 5) from nI_add i 5]; exact vin_nI (by omega) hL
    have K : ∀ (H : Heap) (locs : List Loc) (ls : Array Slot), LI D cy A aN aM aO H → va_S A s.heap H locs → lv_has ls 7 [(0, .ref b), (1, .ref aN), (2, .ref aM), (3, .ref aO), (4, .int (nI i))] → W p l e room_1 s m #[Value.ref b] below meth c H locs (C0 + 1) (S0 + 6) Q (F0 m 1786 ls []) := by
      intro H locs ls hI hS hl
      refine lv_iinc (v := (nI i + 6)) (lv' := [(4, .int (nI i + 6)), (0, .ref b), (1, .ref aN), (2, .ref aM), (3, .ref aO)]) hx hb dL_law_1786 hl (k := 4) rfl (by first | rfl | decide) (by decide) rfl (fun ls hl => ?_)
      refine lv_goto (tgt := 23) hx hb dL_law_1789 (by decide) ?_
      rw [show nI i + 6 = nI (i + 6) from nI_add i 6] at hl
      exact ih (i + 6) (C0 + 1) (S0 + 6) (by omega) (by omega) (by omega) (by omega) H locs ls hI hS (lv_sub hl [1, 2, 3, 4, 0] rfl)
    have hc1 : C0 + 1 ≤ 601024 := by omega
    have hc2 : S0 + 6 ≤ 7293034 := by omega
    refine lv_aload_n hx hb dL_law_33 rfl (lv_at hl 0 rfl) ?_
    refine lv_iload hx hb dL_law_34 (lv_at hl 4 rfl) ?_
    refine va_sld hx hb hX hbl hbA hS h0 dL_law_36 ?_
    refine lv_bipush (v := 63) hx hb dL_law_37 (by decide) ?_
    refine lv_iand hx hb dL_law_39 ?_
    generalize xs (nI i).toNatClampNeg &&& 63 = v
    by_cases c_0 : v = 0
    · refine lv_tableIn (tgt := 260) (off := 220) hx hb dL_law_40 (by rw [c_0]; decide) (by rw [c_0]; decide) (by rw [c_0]; decide) (by decide) ?_
      exact lcase_0 hC0 h1 h2 h3 h4 h5 hc1 hc2 K H locs ls hI hS hl
    by_cases c_1 : v = 1
    · refine lv_tableIn (tgt := 333) (off := 293) hx hb dL_law_40 (by rw [c_1]; decide) (by rw [c_1]; decide) (by rw [c_1]; decide) (by decide) ?_
      exact lcase_1 hC0 h1 h2 h3 h4 h5 hc1 hc2 K H locs ls hI hS hl
    by_cases c_2 : v = 2
    · refine lv_tableIn (tgt := 358) (off := 318) hx hb dL_law_40 (by rw [c_2]; decide) (by rw [c_2]; decide) (by rw [c_2]; decide) (by decide) ?_
      exact lcase_2 hC0 h1 h2 h3 h4 h5 hc1 hc2 K H locs ls hI hS hl
    by_cases c_3 : v = 3
    · refine lv_tableIn (tgt := 371) (off := 331) hx hb dL_law_40 (by rw [c_3]; decide) (by rw [c_3]; decide) (by rw [c_3]; decide) (by decide) ?_
      exact lcase_3 hC0 h1 h2 h3 h4 h5 hc1 hc2 K H locs ls hI hS hl
    by_cases c_4 : v = 4
    · refine lv_tableIn (tgt := 384) (off := 344) hx hb dL_law_40 (by rw [c_4]; decide) (by rw [c_4]; decide) (by rw [c_4]; decide) (by decide) ?_
      exact lcase_4 hC0 h1 h2 h3 h4 h5 hc1 hc2 K H locs ls hI hS hl
    by_cases c_5 : v = 5
    · refine lv_tableIn (tgt := 421) (off := 381) hx hb dL_law_40 (by rw [c_5]; decide) (by rw [c_5]; decide) (by rw [c_5]; decide) (by decide) ?_
      exact lcase_5 hC0 h1 h2 h3 h4 h5 hc1 hc2 K H locs ls hI hS hl
    by_cases c_6 : v = 6
    · refine lv_tableIn (tgt := 458) (off := 418) hx hb dL_law_40 (by rw [c_6]; decide) (by rw [c_6]; decide) (by rw [c_6]; decide) (by decide) ?_
      exact lcase_6 hC0 h1 h2 h3 h4 h5 hc1 hc2 K H locs ls hI hS hl
    by_cases c_7 : v = 7
    · refine lv_tableIn (tgt := 495) (off := 455) hx hb dL_law_40 (by rw [c_7]; decide) (by rw [c_7]; decide) (by rw [c_7]; decide) (by decide) ?_
      exact lcase_7 hC0 h1 h2 h3 h4 h5 hc1 hc2 K H locs ls hI hS hl
    by_cases c_8 : v = 8
    · refine lv_tableIn (tgt := 532) (off := 492) hx hb dL_law_40 (by rw [c_8]; decide) (by rw [c_8]; decide) (by rw [c_8]; decide) (by decide) ?_
      exact lcase_8 hC0 h1 h2 h3 h4 h5 hc1 hc2 K H locs ls hI hS hl
    by_cases c_9 : v = 9
    · refine lv_tableIn (tgt := 557) (off := 517) hx hb dL_law_40 (by rw [c_9]; decide) (by rw [c_9]; decide) (by rw [c_9]; decide) (by decide) ?_
      exact lcase_9 hC0 h1 h2 h3 h4 h5 hc1 hc2 K H locs ls hI hS hl
    by_cases c_10 : v = 10
    · refine lv_tableIn (tgt := 570) (off := 530) hx hb dL_law_40 (by rw [c_10]; decide) (by rw [c_10]; decide) (by rw [c_10]; decide) (by decide) ?_
      exact lcase_10 hC0 h1 h2 h3 h4 h5 hc1 hc2 K H locs ls hI hS hl
    by_cases c_11 : v = 11
    · refine lv_tableIn (tgt := 583) (off := 543) hx hb dL_law_40 (by rw [c_11]; decide) (by rw [c_11]; decide) (by rw [c_11]; decide) (by decide) ?_
      exact lcase_11 hC0 h1 h2 h3 h4 h5 hc1 hc2 K H locs ls hI hS hl
    by_cases c_12 : v = 12
    · refine lv_tableIn (tgt := 596) (off := 556) hx hb dL_law_40 (by rw [c_12]; decide) (by rw [c_12]; decide) (by rw [c_12]; decide) (by decide) ?_
      exact lcase_12 hC0 h1 h2 h3 h4 h5 hc1 hc2 K H locs ls hI hS hl
    by_cases c_13 : v = 13
    · refine lv_tableIn (tgt := 633) (off := 593) hx hb dL_law_40 (by rw [c_13]; decide) (by rw [c_13]; decide) (by rw [c_13]; decide) (by decide) ?_
      exact lcase_13 hC0 h1 h2 h3 h4 h5 hc1 hc2 K H locs ls hI hS hl
    by_cases c_14 : v = 14
    · refine lv_tableIn (tgt := 682) (off := 642) hx hb dL_law_40 (by rw [c_14]; decide) (by rw [c_14]; decide) (by rw [c_14]; decide) (by decide) ?_
      exact lcase_14 hC0 h1 h2 h3 h4 h5 hc1 hc2 K H locs ls hI hS hl
    by_cases c_15 : v = 15
    · refine lv_tableIn (tgt := 719) (off := 679) hx hb dL_law_40 (by rw [c_15]; decide) (by rw [c_15]; decide) (by rw [c_15]; decide) (by decide) ?_
      exact lcase_15 hC0 h1 h2 h3 h4 h5 hc1 hc2 K H locs ls hI hS hl
    by_cases c_16 : v = 16
    · refine lv_tableIn (tgt := 732) (off := 692) hx hb dL_law_40 (by rw [c_16]; decide) (by rw [c_16]; decide) (by rw [c_16]; decide) (by decide) ?_
      exact lcase_16 hC0 h1 h2 h3 h4 h5 hc1 hc2 K H locs ls hI hS hl
    by_cases c_17 : v = 17
    · refine lv_tableIn (tgt := 745) (off := 705) hx hb dL_law_40 (by rw [c_17]; decide) (by rw [c_17]; decide) (by rw [c_17]; decide) (by decide) ?_
      exact lcase_17 hC0 h1 h2 h3 h4 h5 hc1 hc2 K H locs ls hI hS hl
    by_cases c_18 : v = 18
    · refine lv_tableIn (tgt := 782) (off := 742) hx hb dL_law_40 (by rw [c_18]; decide) (by rw [c_18]; decide) (by rw [c_18]; decide) (by decide) ?_
      exact lcase_18 hC0 h1 h2 h3 h4 h5 hc1 hc2 K H locs ls hI hS hl
    by_cases c_19 : v = 19
    · refine lv_tableIn (tgt := 831) (off := 791) hx hb dL_law_40 (by rw [c_19]; decide) (by rw [c_19]; decide) (by rw [c_19]; decide) (by decide) ?_
      exact lcase_19 hC0 h1 h2 h3 h4 h5 hc1 hc2 K H locs ls hI hS hl
    by_cases c_20 : v = 20
    · refine lv_tableIn (tgt := 844) (off := 804) hx hb dL_law_40 (by rw [c_20]; decide) (by rw [c_20]; decide) (by rw [c_20]; decide) (by decide) ?_
      exact lcase_20 hC0 h1 h2 h3 h4 h5 hc1 hc2 K H locs ls hI hS hl
    by_cases c_21 : v = 21
    · refine lv_tableIn (tgt := 857) (off := 817) hx hb dL_law_40 (by rw [c_21]; decide) (by rw [c_21]; decide) (by rw [c_21]; decide) (by decide) ?_
      exact lcase_21 hC0 h1 h2 h3 h4 h5 hc1 hc2 K H locs ls hI hS hl
    by_cases c_22 : v = 22
    · refine lv_tableIn (tgt := 882) (off := 842) hx hb dL_law_40 (by rw [c_22]; decide) (by rw [c_22]; decide) (by rw [c_22]; decide) (by decide) ?_
      exact lcase_22 hC0 h1 h2 h3 h4 h5 hc1 hc2 K H locs ls hI hS hl
    by_cases c_23 : v = 23
    · refine lv_tableIn (tgt := 943) (off := 903) hx hb dL_law_40 (by rw [c_23]; decide) (by rw [c_23]; decide) (by rw [c_23]; decide) (by decide) ?_
      exact lcase_23 hC0 h1 h2 h3 h4 h5 hc1 hc2 K H locs ls hI hS hl
    by_cases c_24 : v = 24
    · refine lv_tableIn (tgt := 992) (off := 952) hx hb dL_law_40 (by rw [c_24]; decide) (by rw [c_24]; decide) (by rw [c_24]; decide) (by decide) ?_
      exact lcase_24 hC0 h1 h2 h3 h4 h5 hc1 hc2 K H locs ls hI hS hl
    by_cases c_25 : v = 25
    · refine lv_tableIn (tgt := 1041) (off := 1001) hx hb dL_law_40 (by rw [c_25]; decide) (by rw [c_25]; decide) (by rw [c_25]; decide) (by decide) ?_
      exact lcase_25 hC0 h1 h2 h3 h4 h5 hc1 hc2 K H locs ls hI hS hl
    by_cases c_26 : v = 26
    · refine lv_tableIn (tgt := 1066) (off := 1026) hx hb dL_law_40 (by rw [c_26]; decide) (by rw [c_26]; decide) (by rw [c_26]; decide) (by decide) ?_
      exact lcase_26 hC0 h1 h2 h3 h4 h5 hc1 hc2 K H locs ls hI hS hl
    by_cases c_27 : v = 27
    · refine lv_tableIn (tgt := 1091) (off := 1051) hx hb dL_law_40 (by rw [c_27]; decide) (by rw [c_27]; decide) (by rw [c_27]; decide) (by decide) ?_
      exact lcase_27 hC0 h1 h2 h3 h4 h5 hc1 hc2 K H locs ls hI hS hl
    by_cases c_28 : v = 28
    · refine lv_tableIn (tgt := 1116) (off := 1076) hx hb dL_law_40 (by rw [c_28]; decide) (by rw [c_28]; decide) (by rw [c_28]; decide) (by decide) ?_
      exact lcase_28 hC0 h1 h2 h3 h4 h5 hc1 hc2 K H locs ls hI hS hl
    by_cases c_29 : v = 29
    · refine lv_tableIn (tgt := 1129) (off := 1089) hx hb dL_law_40 (by rw [c_29]; decide) (by rw [c_29]; decide) (by rw [c_29]; decide) (by decide) ?_
      exact lcase_29 hC0 h1 h2 h3 h4 h5 hc1 hc2 K H locs ls hI hS hl
    by_cases c_30 : v = 30
    · refine lv_tableIn (tgt := 1142) (off := 1102) hx hb dL_law_40 (by rw [c_30]; decide) (by rw [c_30]; decide) (by rw [c_30]; decide) (by decide) ?_
      exact lcase_30 hC0 h1 h2 h3 h4 h5 hc1 hc2 K H locs ls hI hS hl
    by_cases c_31 : v = 31
    · refine lv_tableIn (tgt := 1167) (off := 1127) hx hb dL_law_40 (by rw [c_31]; decide) (by rw [c_31]; decide) (by rw [c_31]; decide) (by decide) ?_
      exact lcase_31 hC0 h1 h2 h3 h4 h5 hc1 hc2 K H locs ls hI hS hl
    by_cases c_32 : v = 32
    · refine lv_tableIn (tgt := 1204) (off := 1164) hx hb dL_law_40 (by rw [c_32]; decide) (by rw [c_32]; decide) (by rw [c_32]; decide) (by decide) ?_
      exact lcase_32 hC0 h1 h2 h3 h4 h5 hc1 hc2 K H locs ls hI hS hl
    by_cases c_33 : v = 33
    · refine lv_tableIn (tgt := 1229) (off := 1189) hx hb dL_law_40 (by rw [c_33]; decide) (by rw [c_33]; decide) (by rw [c_33]; decide) (by decide) ?_
      exact lcase_33 hC0 h1 h2 h3 h4 h5 hc1 hc2 K H locs ls hI hS hl
    by_cases c_34 : v = 34
    · refine lv_tableIn (tgt := 1242) (off := 1202) hx hb dL_law_40 (by rw [c_34]; decide) (by rw [c_34]; decide) (by rw [c_34]; decide) (by decide) ?_
      exact lcase_34 hC0 h1 h2 h3 h4 h5 hc1 hc2 K H locs ls hI hS hl
    by_cases c_35 : v = 35
    · refine lv_tableIn (tgt := 1255) (off := 1215) hx hb dL_law_40 (by rw [c_35]; decide) (by rw [c_35]; decide) (by rw [c_35]; decide) (by decide) ?_
      exact lcase_35 hC0 h1 h2 h3 h4 h5 hc1 hc2 K H locs ls hI hS hl
    by_cases c_36 : v = 36
    · refine lv_tableIn (tgt := 1332) (off := 1292) hx hb dL_law_40 (by rw [c_36]; decide) (by rw [c_36]; decide) (by rw [c_36]; decide) (by decide) ?_
      exact lcase_36 hC0 h1 h2 h3 h4 h5 hc1 hc2 K H locs ls hI hS hl
    by_cases c_37 : v = 37
    · refine lv_tableIn (tgt := 1357) (off := 1317) hx hb dL_law_40 (by rw [c_37]; decide) (by rw [c_37]; decide) (by rw [c_37]; decide) (by decide) ?_
      exact lcase_37 hC0 h1 h2 h3 h4 h5 hc1 hc2 K H locs ls hI hS hl
    by_cases c_38 : v = 38
    · refine lv_tableIn (tgt := 1382) (off := 1342) hx hb dL_law_40 (by rw [c_38]; decide) (by rw [c_38]; decide) (by rw [c_38]; decide) (by decide) ?_
      exact lcase_38 hC0 h1 h2 h3 h4 h5 hc1 hc2 K H locs ls hI hS hl
    by_cases c_39 : v = 39
    · refine lv_tableIn (tgt := 1431) (off := 1391) hx hb dL_law_40 (by rw [c_39]; decide) (by rw [c_39]; decide) (by rw [c_39]; decide) (by decide) ?_
      exact lcase_39 hC0 h1 h2 h3 h4 h5 hc1 hc2 K H locs ls hI hS hl
    by_cases c_40 : v = 40
    · refine lv_tableIn (tgt := 1468) (off := 1428) hx hb dL_law_40 (by rw [c_40]; decide) (by rw [c_40]; decide) (by rw [c_40]; decide) (by decide) ?_
      exact lcase_40 hC0 h1 h2 h3 h4 h5 hc1 hc2 K H locs ls hI hS hl
    by_cases c_41 : v = 41
    · refine lv_tableIn (tgt := 1529) (off := 1489) hx hb dL_law_40 (by rw [c_41]; decide) (by rw [c_41]; decide) (by rw [c_41]; decide) (by decide) ?_
      exact lcase_41 hC0 h1 h2 h3 h4 h5 hc1 hc2 K H locs ls hI hS hl
    by_cases c_42 : v = 42
    · refine lv_tableIn (tgt := 1554) (off := 1514) hx hb dL_law_40 (by rw [c_42]; decide) (by rw [c_42]; decide) (by rw [c_42]; decide) (by decide) ?_
      exact lcase_42 hC0 h1 h2 h3 h4 h5 hc1 hc2 K H locs ls hI hS hl
    by_cases c_43 : v = 43
    · refine lv_tableIn (tgt := 1579) (off := 1539) hx hb dL_law_40 (by rw [c_43]; decide) (by rw [c_43]; decide) (by rw [c_43]; decide) (by decide) ?_
      exact lcase_43 hC0 h1 h2 h3 h4 h5 hc1 hc2 K H locs ls hI hS hl
    by_cases c_44 : v = 44
    · refine lv_tableIn (tgt := 1628) (off := 1588) hx hb dL_law_40 (by rw [c_44]; decide) (by rw [c_44]; decide) (by rw [c_44]; decide) (by decide) ?_
      exact lcase_44 hC0 h1 h2 h3 h4 h5 hc1 hc2 K H locs ls hI hS hl
    by_cases c_45 : v = 45
    · refine lv_tableIn (tgt := 1641) (off := 1601) hx hb dL_law_40 (by rw [c_45]; decide) (by rw [c_45]; decide) (by rw [c_45]; decide) (by decide) ?_
      exact lcase_45 hC0 h1 h2 h3 h4 h5 hc1 hc2 K H locs ls hI hS hl
    by_cases c_46 : v = 46
    · refine lv_tableIn (tgt := 1654) (off := 1614) hx hb dL_law_40 (by rw [c_46]; decide) (by rw [c_46]; decide) (by rw [c_46]; decide) (by decide) ?_
      exact lcase_46 hC0 h1 h2 h3 h4 h5 hc1 hc2 K H locs ls hI hS hl
    by_cases c_47 : v = 47
    · refine lv_tableIn (tgt := 1667) (off := 1627) hx hb dL_law_40 (by rw [c_47]; decide) (by rw [c_47]; decide) (by rw [c_47]; decide) (by decide) ?_
      exact lcase_47 hC0 h1 h2 h3 h4 h5 hc1 hc2 K H locs ls hI hS hl
    by_cases c_48 : v = 48
    · refine lv_tableIn (tgt := 1692) (off := 1652) hx hb dL_law_40 (by rw [c_48]; decide) (by rw [c_48]; decide) (by rw [c_48]; decide) (by decide) ?_
      exact lcase_48 hfl hC0 h1 h2 h3 h4 h5 hc1 hc2 K H locs ls hI hS hl
    by_cases c_49 : v = 49
    · refine lv_tableIn (tgt := 1748) (off := 1708) hx hb dL_law_40 (by rw [c_49]; decide) (by rw [c_49]; decide) (by rw [c_49]; decide) (by decide) ?_
      exact lcase_49 hC0 h1 h2 h3 h4 h5 hc1 hc2 K H locs ls hI hS hl
    by_cases c_50 : v = 50
    · refine lv_tableIn (tgt := 1773) (off := 1733) hx hb dL_law_40 (by rw [c_50]; decide) (by rw [c_50]; decide) (by rw [c_50]; decide) (by decide) ?_
      exact lcase_50 hC0 h1 h2 h3 h4 h5 hc1 hc2 K H locs ls hI hS hl
    refine lv_tableOut (tgt := 1786) hx hb dL_law_40 (by have q0 := lv_neT c_0 (a := 0) (by decide); have q1 := lv_neT c_1 (a := 1) (by decide); have q2 := lv_neT c_2 (a := 2) (by decide); have q3 := lv_neT c_3 (a := 3) (by decide); have q4 := lv_neT c_4 (a := 4) (by decide); have q5 := lv_neT c_5 (a := 5) (by decide); have q6 := lv_neT c_6 (a := 6) (by decide); have q7 := lv_neT c_7 (a := 7) (by decide); have q8 := lv_neT c_8 (a := 8) (by decide); have q9 := lv_neT c_9 (a := 9) (by decide); have q10 := lv_neT c_10 (a := 10) (by decide); have q11 := lv_neT c_11 (a := 11) (by decide); have q12 := lv_neT c_12 (a := 12) (by decide); have q13 := lv_neT c_13 (a := 13) (by decide); have q14 := lv_neT c_14 (a := 14) (by decide); have q15 := lv_neT c_15 (a := 15) (by decide); have q16 := lv_neT c_16 (a := 16) (by decide); have q17 := lv_neT c_17 (a := 17) (by decide); have q18 := lv_neT c_18 (a := 18) (by decide); have q19 := lv_neT c_19 (a := 19) (by decide); have q20 := lv_neT c_20 (a := 20) (by decide); have q21 := lv_neT c_21 (a := 21) (by decide); have q22 := lv_neT c_22 (a := 22) (by decide); have q23 := lv_neT c_23 (a := 23) (by decide); have q24 := lv_neT c_24 (a := 24) (by decide); have q25 := lv_neT c_25 (a := 25) (by decide); have q26 := lv_neT c_26 (a := 26) (by decide); have q27 := lv_neT c_27 (a := 27) (by decide); have q28 := lv_neT c_28 (a := 28) (by decide); have q29 := lv_neT c_29 (a := 29) (by decide); have q30 := lv_neT c_30 (a := 30) (by decide); have q31 := lv_neT c_31 (a := 31) (by decide); have q32 := lv_neT c_32 (a := 32) (by decide); have q33 := lv_neT c_33 (a := 33) (by decide); have q34 := lv_neT c_34 (a := 34) (by decide); have q35 := lv_neT c_35 (a := 35) (by decide); have q36 := lv_neT c_36 (a := 36) (by decide); have q37 := lv_neT c_37 (a := 37) (by decide); have q38 := lv_neT c_38 (a := 38) (by decide); have q39 := lv_neT c_39 (a := 39) (by decide); have q40 := lv_neT c_40 (a := 40) (by decide); have q41 := lv_neT c_41 (a := 41) (by decide); have q42 := lv_neT c_42 (a := 42) (by decide); have q43 := lv_neT c_43 (a := 43) (by decide); have q44 := lv_neT c_44 (a := 44) (by decide); have q45 := lv_neT c_45 (a := 45) (by decide); have q46 := lv_neT c_46 (a := 46) (by decide); have q47 := lv_neT c_47 (a := 47) (by decide); have q48 := lv_neT c_48 (a := 48) (by decide); have q49 := lv_neT c_49 (a := 49) (by decide); have q50 := lv_neT c_50 (a := 50) (by decide); omega) (by decide) ?_
    exact W.widen (k := C0 + 1) (n := S0 + 6) (by omega) (by omega) (K H locs ls hI hS hl)
end LOOP
