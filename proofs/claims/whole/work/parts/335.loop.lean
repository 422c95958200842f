theorem nI_iO (n : Nat) : nI n = iO (n : Int) := Int32.ofInt_eq_ofNat.symm
theorem lw_more {i L : Nat} (hi : i ≤ L + 6) (hL : L ≤ 3072) (h : ¬ Int32.ofNat L - 6 < nI i) : i + 6 ≤ L := by
  have e : Int32.ofNat L - 6 = iO ((L : Int) - 6) := by
    rw [show (Int32.ofNat L : Int32) = iO (L : Int) from nI_iO L, show (6 : Int32) = iO 6 by decide, iO_sub]
  rw [e, nI_iO, iO_lt (by constructor <;> omega) (by constructor <;> omega)] at h
  omega
section LWLOOP
variable {p : Program} {l : Launch} {e : Env} {s : State} {m : MethodId} {below : List Frame} {meth : Method} {c : Code}
variable {D : va_G} {cy : ClassId × ClassId} {ad : Nat → Nat} {b L : Nat} {xs : Nat → Int32} {CE SL : Nat}
set_option maxHeartbeats 4000000 in
/-- one script number: from the table to the loop's step -/
theorem lw_switch {H : Heap} {locs : List Loc} {Q : State → Prop} {ls : Array Slot} {μ : mm} {i : Nat} (X : zX p s m #[.ref b] meth c cL_law RL lw_tbl 4 D cy ad ret (lwA s)) (hX : va_X b L xs s s.heap) (hbl : b < s.heap.size) (R : Rel μ) (hW : zW D cy ad (lwA s) s.heap μ H locs) (hl : lv_has ls 4 [(0, .ref b), (1, .ref (ad 9)), (2, .ref (ad 0)), (3, .int (nI i))]) (hi : i + 6 ≤ L) (hL : L ≤ 3072) (hce : CE ≤ room_1.cells ∧ SL ≤ room_1.slots) {x : Int} (hx0 : 0 ≤ x) (hx1 : x < 64)
    (kk : ∀ (μ2 : mm) (H : Heap) (locs : List Loc), Rel μ2 → zW D cy ad (lwA s) s.heap μ2 H locs → W p l e room_1 s m #[.ref b] below meth c H locs CE SL Q (F0 m 1206 ls [])) : W p l e room_1 s m #[.ref b] below meth c H locs CE SL Q (F0 m 33 ls [.int (iO x)]) := by
  by_cases hx : x ≤ 37
  · rcases (show x = 0 ∨ x = 1 ∨ x = 2 ∨ x = 3 ∨ x = 4 ∨ x = 5 ∨ x = 6 ∨ x = 7 ∨ x = 8 ∨ x = 9 ∨ x = 10 ∨ x = 11 ∨ x = 12 ∨ x = 13 ∨ x = 14 ∨ x = 15 ∨ x = 16 ∨ x = 17 ∨ x = 18 ∨ x = 19 ∨ x = 20 ∨ x = 21 ∨ x = 22 ∨ x = 23 ∨ x = 24 ∨ x = 25 ∨ x = 26 ∨ x = 27 ∨ x = 28 ∨ x = 29 ∨ x = 30 ∨ x = 31 ∨ x = 32 ∨ x = 33 ∨ x = 34 ∨ x = 35 ∨ x = 36 ∨ x = 37 by omega) with h | h | h | h | h | h | h | h | h | h | h | h | h | h | h | h | h | h | h | h | h | h | h | h | h | h | h | h | h | h | h | h | h | h | h | h | h | h
    · subst h
      exact lv_tableIn (x := iO 0) (off := 167) (tgt := 200) X.1.1 X.1.2.1 dL_law_33 (by decide) (by decide) rfl (by decide) (lw_letter X hX hbl R hW hl hi hL hce kk)
    · subst h
      exact lv_tableIn (x := iO 1) (off := 190) (tgt := 223) X.1.1 X.1.2.1 dL_law_33 (by decide) (by decide) rfl (by decide) (lw_counter X hX hbl R hW hl hi hL hce kk)
    · subst h
      exact lv_tableIn (x := iO 2) (off := 203) (tgt := 236) X.1.1 X.1.2.1 dL_law_33 (by decide) (by decide) rfl (by decide) (lw_person X hX hbl R hW hl hi hL hce kk)
    · subst h
      exact lv_tableIn (x := iO 3) (off := 236) (tgt := 269) X.1.1 X.1.2.1 dL_law_33 (by decide) (by decide) rfl (by decide) (lw_issues X hX hbl R hW hl hi hL hce kk)
    · subst h
      exact lv_tableIn (x := iO 4) (off := 269) (tgt := 302) X.1.1 X.1.2.1 dL_law_33 (by decide) (by decide) rfl (by decide) (lw_returns X hX hbl R hW hl hi hL hce kk)
    · subst h
      exact lv_tableIn (x := iO 5) (off := 292) (tgt := 325) X.1.1 X.1.2.1 dL_law_33 (by decide) (by decide) rfl (by decide) (lw_due X hX hbl R hW hl hi hL hce kk)
    · subst h
      exact lv_tableIn (x := iO 6) (off := 325) (tgt := 358) X.1.1 X.1.2.1 dL_law_33 (by decide) (by decide) rfl (by decide) (lw_fills X hX hbl R hW hl hi hL hce kk)
    · subst h
      exact lv_tableIn (x := iO 7) (off := 348) (tgt := 381) X.1.1 X.1.2.1 dL_law_33 (by decide) (by decide) rfl (by decide) (lw_turn X hX hbl R hW hl hi hL hce kk)
    · subst h
      exact lv_tableIn (x := iO 8) (off := 391) (tgt := 424) X.1.1 X.1.2.1 dL_law_33 (by decide) (by decide) rfl (by decide) (lw_days X hX hbl R hW hl hi hL hce kk)
    · subst h
      exact lv_tableIn (x := iO 9) (off := 414) (tgt := 447) X.1.1 X.1.2.1 dL_law_33 (by decide) (by decide) rfl (by decide) (lw_personThen X hX hbl R hW hl hi hL hce kk)
    · subst h
      exact lv_tableIn (x := iO 10) (off := 457) (tgt := 490) X.1.1 X.1.2.1 dL_law_33 (by decide) (by decide) rfl (by decide) (lw_allThen X hX hbl R hW hl hi hL hce kk)
    · subst h
      exact lv_tableIn (x := iO 11) (off := 490) (tgt := 523) X.1.1 X.1.2.1 dL_law_33 (by decide) (by decide) rfl (by decide) (lw_first X hX hbl R hW hl hi hL hce kk)
    · subst h
      exact lv_tableIn (x := iO 12) (off := 513) (tgt := 546) X.1.1 X.1.2.1 dL_law_33 (by decide) (by decide) rfl (by decide) (lw_lasts X hX hbl R hW hl hi hL hce kk)
    · subst h
      exact lv_tableIn (x := iO 13) (off := 536) (tgt := 569) X.1.1 X.1.2.1 dL_law_33 (by decide) (by decide) rfl (by decide) (lw_lacks X hX hbl R hW hl hi hL hce kk)
    · subst h
      exact lv_tableIn (x := iO 14) (off := 549) (tgt := 582) X.1.1 X.1.2.1 dL_law_33 (by decide) (by decide) rfl (by decide) (lw_next X hX hbl R hW hl hi hL hce kk)
    · subst h
      exact lv_tableIn (x := iO 15) (off := 572) (tgt := 605) X.1.1 X.1.2.1 dL_law_33 (by decide) (by decide) rfl (by decide) (lw_enough X hX hbl R hW hl hi hL hce kk)
    · subst h
      exact lv_tableIn (x := iO 16) (off := 605) (tgt := 638) X.1.1 X.1.2.1 dL_law_33 (by decide) (by decide) rfl (by decide) (lw_serve X hX hbl R hW hl hi hL hce kk)
    · subst h
      exact lv_tableIn (x := iO 17) (off := 628) (tgt := 661) X.1.1 X.1.2.1 dL_law_33 (by decide) (by decide) rfl (by decide) (lw_best X hX hbl R hW hl hi hL hce kk)
    · subst h
      exact lv_tableIn (x := iO 18) (off := 661) (tgt := 694) X.1.1 X.1.2.1 dL_law_33 (by decide) (by decide) rfl (by decide) (lw_run X hX hbl R hW hl hi hL hce kk)
    · subst h
      exact lv_tableIn (x := iO 19) (off := 684) (tgt := 717) X.1.1 X.1.2.1 dL_law_33 (by decide) (by decide) rfl (by decide) (lw_stock X hX hbl R hW hl hi hL hce kk)
    · subst h
      exact lv_tableIn (x := iO 20) (off := 707) (tgt := 740) X.1.1 X.1.2.1 dL_law_33 (by decide) (by decide) rfl (by decide) (lw_borrow X hX hbl R hW hl hi hL hce kk)
    · subst h
      exact lv_tableIn (x := iO 21) (off := 740) (tgt := 773) X.1.1 X.1.2.1 dL_law_33 (by decide) (by decide) rfl (by decide) (lw_sweep X hX hbl R hW hl hi hL hce kk)
    · subst h
      exact lv_tableIn (x := iO 22) (off := 773) (tgt := 806) X.1.1 X.1.2.1 dL_law_33 (by decide) (by decide) rfl (by decide) (lw_grain X hX hbl R hW hl hi hL hce kk)
    · subst h
      exact lv_tableIn (x := iO 23) (off := 796) (tgt := 829) X.1.1 X.1.2.1 dL_law_33 (by decide) (by decide) rfl (by decide) (lw_shares X hX hbl R hW hl hi hL hce kk)
    · subst h
      exact lv_tableIn (x := iO 24) (off := 819) (tgt := 852) X.1.1 X.1.2.1 dL_law_33 (by decide) (by decide) rfl (by decide) (lw_richest X hX hbl R hW hl hi hL hce kk)
    · subst h
      exact lv_tableIn (x := iO 25) (off := 832) (tgt := 865) X.1.1 X.1.2.1 dL_law_33 (by decide) (by decide) rfl (by decide) (lw_trusted X hX hbl R hW hl hi hL hce kk)
    · subst h
      exact lv_tableIn (x := iO 26) (off := 855) (tgt := 888) X.1.1 X.1.2.1 dL_law_33 (by decide) (by decide) rfl (by decide) (lw_worth X hX hbl R hW hl hi hL hce kk)
    · subst h
      exact lv_tableIn (x := iO 27) (off := 868) (tgt := 901) X.1.1 X.1.2.1 dL_law_33 (by decide) (by decide) rfl (by decide) (lw_two X hX hbl R hW hl hi hL hce kk)
    · subst h
      exact lv_tableIn (x := iO 28) (off := 911) (tgt := 944) X.1.1 X.1.2.1 dL_law_33 (by decide) (by decide) rfl (by decide) (lw_slip X hX hbl R hW hl hi hL hce kk)
    · subst h
      exact lv_tableIn (x := iO 29) (off := 975) (tgt := 1008) X.1.1 X.1.2.1 dL_law_33 (by decide) (by decide) rfl (by decide) (lw_mean X hX hbl R hW hl hi hL hce kk)
    · subst h
      exact lv_tableIn (x := iO 30) (off := 999) (tgt := 1032) X.1.1 X.1.2.1 dL_law_33 (by decide) (by decide) rfl (by decide) (lw_whatIs X hX hbl R hW hl hi hL hce kk)
    · subst h
      exact lv_tableIn (x := iO 31) (off := 1032) (tgt := 1065) X.1.1 X.1.2.1 dL_law_33 (by decide) (by decide) rfl (by decide) (lw_row X hX hbl R hW hl hi hL hce kk)
    · subst h
      exact lv_tableIn (x := iO 32) (off := 1055) (tgt := 1088) X.1.1 X.1.2.1 dL_law_33 (by decide) (by decide) rfl (by decide) (lw_judge X hX hbl R hW hl hi hL hce kk)
    · subst h
      exact lv_tableIn (x := iO 33) (off := 1068) (tgt := 1101) X.1.1 X.1.2.1 dL_law_33 (by decide) (by decide) rfl (by decide) (lw_clear X hX hbl R hW hl hi hL hce kk)
    · subst h
      exact lv_tableIn (x := iO 34) (off := 1081) (tgt := 1114) X.1.1 X.1.2.1 dL_law_33 (by decide) (by decide) rfl (by decide) (lw_lots X hX hbl R hW hl hi hL hce kk)
    · subst h
      exact lv_tableIn (x := iO 35) (off := 1124) (tgt := 1157) X.1.1 X.1.2.1 dL_law_33 (by decide) (by decide) rfl (by decide) (lw_image X hX hbl R hW hl hi hL hce kk)
    · subst h
      exact lv_tableIn (x := iO 36) (off := 1137) (tgt := 1170) X.1.1 X.1.2.1 dL_law_33 (by decide) (by decide) rfl (by decide) (lw_on X hX hbl R hW hl hi hL hce kk)
    · subst h
      exact lv_tableIn (x := iO 37) (off := 1150) (tgt := 1183) X.1.1 X.1.2.1 dL_law_33 (by decide) (by decide) rfl (by decide) (lw_count X hX hbl R hW hl hi hL hce kk)
  · refine lv_tableOut (tgt := 1206) X.1.1 X.1.2.1 dL_law_33 (Or.inr ?_) (by decide) (kk μ _ _ R hW)
    rw [iO_toInt (by constructor <;> omega)]; omega
set_option maxHeartbeats 4000000 in
/-- the law's loop, from its head to its end -/
theorem lw_loop (hL : L ≤ 3072) (X : zX p s m #[.ref b] meth c cL_law RL lw_tbl 4 D cy ad ret (lwA s)) (hX : va_X b L xs s s.heap) (hbl : b < s.heap.size) (hce : CE ≤ room_1.cells ∧ SL ≤ room_1.slots) (hcf : CE ≤ 600000 ∧ SL ≤ 7302250) :
    ∀ (n i : Nat), L + 6 ≤ i + 6 * n → i ≤ L + 6 → ∀ (μ : mm) (H : Heap) (locs : List Loc), Rel μ → zW D cy ad (lwA s) s.heap μ H locs → ∀ ls : Array Slot, lv_has ls 4 [(0, .ref b), (1, .ref (ad 9)), (2, .ref (ad 0)), (3, .int (nI i))] → W p l e room_1 s m #[Value.ref b] below meth c H locs CE SL (lw_Z below #[Value.ref b] s) (F0 m 18 ls []) := by
  have hx := X.1.1
  have hb := X.1.2.1
  have hbA : ¬ lwA s b := Nat.not_le.mpr hbl
  intro n
  induction n with
  | zero =>
    intro i h1 h2 μ H locs R hW ls hl
    refine lv_iload_n hx hb dL_law_18 rfl (lv_at hl 3 rfl) ?_
    refine lv_aload_n hx hb dL_law_19 rfl (lv_at hl 0 rfl) ?_
    refine va_slen hx hb hX hbl hbA hW.2.2 dL_law_20 ?_
    refine lv_bipush (v := 6) hx hb dL_law_21 (by decide) ?_
    refine lv_isub hx hb dL_law_23 ?_
    refine lv_icmp_gt (tgt := 1212) hx hb dL_law_24 (by decide) (fun _ => ?_) (fun h => ?_)
    · refine lv_iconst (v := 1) hx hb dL_law_1212 (by decide) ?_
      refine va_forget (fun q hq => hW.2.2.2.2 q hq) ?_
      refine W.widen (k := 600000) (n := 7302250) hcf.1 hcf.2 ?_
      exact lw_ret hx hb X.2.1 X.2.2.1 dL_law_1213
    · have := lw_more h2 hL h
      omega
  | succ n ih =>
    intro i h1 h2 μ H locs R hW ls hl
    refine lv_iload_n hx hb dL_law_18 rfl (lv_at hl 3 rfl) ?_
    refine lv_aload_n hx hb dL_law_19 rfl (lv_at hl 0 rfl) ?_
    refine va_slen hx hb hX hbl hbA hW.2.2 dL_law_20 ?_
    refine lv_bipush (v := 6) hx hb dL_law_21 (by decide) ?_
    refine lv_isub hx hb dL_law_23 ?_
    refine lv_icmp_gt (tgt := 1212) hx hb dL_law_24 (by decide) (fun _ => ?_) (fun h => ?_)
    · refine lv_iconst (v := 1) hx hb dL_law_1212 (by decide) ?_
      refine va_forget (fun q hq => hW.2.2.2.2 q hq) ?_
      refine W.widen (k := 600000) (n := 7302250) hcf.1 hcf.2 ?_
      exact lw_ret hx hb X.2.1 X.2.2.1 dL_law_1213
    · have hi := lw_more h2 hL h
      refine lv_aload_n hx hb dL_law_27 rfl (lv_at hl 0 rfl) ?_
      refine lv_iload_n hx hb dL_law_28 rfl (lv_at hl 3 rfl) ?_
      refine va_sld hx hb hX hbl hbA hW.2.2 (vp_in_nI (show i < L by omega) (by omega)) dL_law_29 ?_
      refine lv_bipush (v := 63) hx hb dL_law_30 (by decide) ?_
      refine lv_iand hx hb dL_law_32 ?_
      refine lv_topi (fun y ey => ?_)
      have ey : y = iO ((xs (nI i).toNatClampNeg).toInt % 64) := by
        rw [ey]
        have q := iO_mask (x := (xs (nI i).toNatClampNeg).toInt) 6 (m := 63) (by decide)
        rw [iO_of] at q
        exact q
      subst ey
      refine lw_switch X hX hbl R hW hl hi hL hce (Int.emod_nonneg _ (by decide)) (Int.emod_lt_of_pos _ (by decide)) (fun μ2 H locs R2 hW2 => ?_)
      refine lv_iinc (v := nI (i + 6)) (lv' := [(3, .int (nI (i + 6))), (0, .ref b), (1, .ref (ad 9)), (2, .ref (ad 0))]) hx hb dL_law_1206 hl (k := 3) rfl (by rw [show Int32.ofInt 6 = nI 6 by decide]; exact nI_add i 6) (by decide) rfl (fun ls hl => ?_)
      refine lv_goto (tgt := 18) hx hb dL_law_1209 (by decide) ?_
      exact ih (i + 6) (by omega) (by omega) μ2 H locs R2 hW2 ls (lv_sub hl [1, 2, 3, 0] rfl)
end LWLOOP
