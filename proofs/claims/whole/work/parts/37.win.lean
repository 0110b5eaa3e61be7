/-! THE PURE SIDE: winners, moves, beaten sets, answers -/
theorem full_bit {k i : Nat} (h : i < k) : bt (2 ^ k - 1) i = 1 := by
  have h1 := tbit (2 ^ k - 1) i
  rw [Nat.testBit_two_pow_sub_one, decide_eq_true h] at h1
  exact of_decide_eq_true h1.symm
theorem full_gv {B n v h : Nat} (mf : Nat → Bool) (hB : B < 2 ^ n) (hn : n ≤ 9) (hv : v ≤ n) (hh : h < 2 ^ v) : gv (lfS B n mf (2 ^ 2 ^ pc B - 1)) B (n - v) v h = gv mf B (n - v) v h := by
  refine gv_congr B (n := n) (fun h' q => ?_) (n - v) v h (by omega) hh
  unfold lfS
  have h1 := pl_lt B h' n
  rw [← pc_n hn hB] at h1
  rw [full_bit h1]; rfl
theorem winnerIn_N (N : Nat) {n B v h : Nat} {mf : Nat → Bool} {bits : Nat → Int64} (hB : B < 2 ^ n) (hn : n ≤ 9) (hp : pc B ≤ 3) (hT : BT mf B n 0 bits) (hv : v ≤ n) (hh : h < 2 ^ v) : F_X4_winnerIn N (nI v) (nI h) (nI B) bits = some (if gv mf B (n - v) v h = true then 0 else 1) := by
  have p1 := pw9 hn
  have p2 := pb256 hp
  have p3 := pw_pos (2 ^ pc B)
  unfold F_X4_winnerIn
  rw [allPlays_N N (by omega) hp]
  show ob1 (F_X0_has N (nI v) (nI h) (nI (2 ^ 2 ^ pc B - 1)) bits) _ = _
  rw [has_B hT hn hv hh (by omega), full_gv mf hB hn hv hh]
  cases gv mf B (n - v) v h <;> rfl
theorem winner_N {N n B C Ln : Nat} {R : Int32} {pos neg s : Nat → Int32} (hN : 2000 ≤ N) (o : Ok n B C Ln) (m : Ms n B C Ln R pos neg s) (bits : Nat → Int64) (st : Bool) (hst : st = true ∨ BT (mC pos neg C) B n 0 bits) (w : Nat → Bool) : ∃ r b' w', F_X4_winner N (nI n) (nI B) (nI C) pos neg bits st = some (r, b', false) ∧ BT (mC pos neg C) B n 0 b' ∧ F_X5_winnerOfAll N s w = some (r, w') := by
  obtain ⟨b', e1, t1⟩ := bring_N hN o.1 o.2.1 o.2.2.1 o.2.2.2.2.1 bits st hst
  obtain ⟨w', e2, t2⟩ := lays_N hN m.2.1 m.2.2.1 (ok_512 o) o.2.2.2.2.1 o.1 w
  refine ⟨if gv (mC pos neg C) B n 0 0 = true then 0 else 1, b', w', ?_, t1, ?_⟩
  · unfold F_X4_winner
    rw [e1]
    show ob1 (F_X4_winnerIn N (nI 0) (nI 0) (nI B) b') _ = _
    rw [winnerIn_N N o.2.1 o.1 o.2.2.1 t1 (Nat.zero_le _) (by decide)]; rfl
  · unfold F_X5_winnerOfAll
    rw [m.1, e2]
    show (if w' 1 = true then some (0, w') else some (1, w')) = _
    rw [show w' 1 = gv (mF s C) B (n - 0) 0 0 from t2 0 (Nat.le_refl _) (Nat.zero_le _) 0 (by decide), ms_mF' m, Nat.sub_zero]
    cases gv (mC pos neg C) B n 0 0 <;> rfl
theorem winner_c {N n B C Ln : Nat} {R : Int32} {pos neg s : Nat → Int32} (hN : 2000 ≤ N) (o : Ok n B C Ln) (m : Ms n B C Ln R pos neg s) (bits : Nat → Int64) (st : Bool) (hst : st = true ∨ BT (mC pos neg C) B n 0 bits) (w : Nat → Bool) (th : Int32) : ∃ r b' w', F_X4_winner N (nI n) (nI B) (nI C) pos neg bits st = some (r, b', false) ∧ BT (mC pos neg C) B n 0 b' ∧ F_X5_winner N s th w = some (r, 0, w') := by
  obtain ⟨r, b', w', e1, e2, e3⟩ := winner_N hN o m bits st hst w
  exact ⟨r, b', w', e1, e2, by unfold F_X5_winner; rw [e3]; rfl⟩
theorem winnerAt_c {N n B C Ln : Nat} {R : Int32} {pos neg s : Nat → Int32} (hN : 2000 ≤ N) (o : Ok n B C Ln) (m : Ms n B C Ln R pos neg s) (bits : Nat → Int64) (st : Bool) (hst : st = true ∨ BT (mC pos neg C) B n 0 bits) (w : Nat → Bool) (x y th : Int32) (out : Nat → Int64) : ∃ c b' st' out' r w', F_L_winnerAt N 1 x y (nI n) (nI B) (nI C) pos neg bits st out = some (c, b', st', out') ∧ (st' = true ∨ BT (mC pos neg C) B n 0 b') ∧ F_X5_winnerAt N x y s th w = some (r, c, w') ∧ (c = 0 → out' 0 = r.toInt64) := by
  have hn := o.1
  rcases reqV N x (s := s) hn m.1 with ⟨t, i⟩ | ⟨v, hv, rfl, t, f, i⟩
  · refine ⟨1, bits, st, out, 0, w, ?_, hst, ?_, fun q => absurd q (by decide)⟩
    · unfold F_L_winnerAt T_X4_winnerAt; rw [t]; rfl
    · unfold F_X5_winnerAt F_X5_whyNotAt; rw [i]; rfl
  · rcases reqH N y (show v ≤ 9 by omega) with ⟨t2, i2⟩ | ⟨h, hh, rfl, t2, f2, i2⟩
    · refine ⟨2, bits, st, out, 0, w, ?_, hst, ?_, fun q => absurd q (by decide)⟩
      · unfold F_L_winnerAt T_X4_winnerAt; rw [t, f, t2]; rfl
      · unfold F_X5_winnerAt F_X5_whyNotAt; rw [i]
        show ob1 (ob1 (F_X5_in N y 0 (((1 : Int32) <<< (nI v &&& 31)) - 1)) _) _ = _
        rw [i2]; rfl
    · obtain ⟨b', e1, t1⟩ := bring_N hN o.1 o.2.1 o.2.2.1 o.2.2.2.2.1 bits st hst
      obtain ⟨w', e2, t3⟩ := lays_N hN m.2.1 m.2.2.1 (ok_512 o) o.2.2.2.2.1 o.1 w
      have p1 := pw9 (show v ≤ 9 by omega)
      refine ⟨0, b', false, vp_updL out 0 (if gv (mC pos neg C) B (n - v) v h = true then (0 : Int32) else 1).toInt64, if gv (mC pos neg C) B (n - v) v h = true then 0 else 1, w', ?_, .inr t1, ?_, fun _ => updL_s _ _ _⟩
      · unfold F_L_winnerAt T_X4_winnerAt F_X4_winnerAt; rw [t, f, t2, f2, e1]
        show ob3 (ob1 (F_X4_winnerIn N (nI v) (nI h) (nI B) b') _) _ = _
        rw [winnerIn_N N o.2.1 o.1 o.2.2.1 t1 (by omega) hh]; rfl
      · unfold F_X5_winnerAt F_X5_whyNotAt; rw [i]
        show ob1 (ob1 (F_X5_in N (nI h) 0 (((1 : Int32) <<< (nI v &&& 31)) - 1)) _) _ = _
        rw [i2]
        show ob1 (F_X5_lays N (s 0) s w) _ = _
        rw [m.1, e2]
        show gd (inb (((1 : Int32) <<< (nI v &&& 31)) + nI h) 1024) (if w' (((1 : Int32) <<< (nI v &&& 31)) + nI h).toNatClampNeg = true then _ else _) = _
        rw [shl1 v (by omega), nI_add, inb_f (by omega) (by decide), nI_clamp (by omega), t3 v (Nat.zero_le _) (by omega) h hh, ms_mF' m]
        cases gv (mC pos neg C) B (n - v) v h <;> rfl
theorem mv_step {N n B v h b : Nat} {s : Nat → Int32} {w : Nat → Bool} {leaf : Nat → Bool} (h1 : s 1 = nI B) (hB : B < 512) (hn : n ≤ 9) (hv : v < n) (hh : h < 2 ^ v) (hb : b < 2) (hT : Tab leaf B n 0 w) (kont : Int32 → Option (Int32 × Int32 × (Nat → Bool))) (m : Nat) (x : Int32) : L_X5_move_33 N s (nI v) (nI h) w kont (m + 1) x (nI b) = L_X5_move_33 N s (nI v) (nI h) w kont m (if gv leaf B (n - (v + 1)) (v + 1) (h + b * 2 ^ v) = decide (bt B v = 1) then x else nI b) (nI b + (-1)) := by
  have p1 := pw9 (show v + 1 ≤ 9 by omega)
  have p2 : 2 ^ (v + 1) = 2 ^ v + 2 ^ v := by rw [Nat.pow_succ]; omega
  have p3 : b * 2 ^ v ≤ 2 ^ v := by
    rcases (show b = 0 ∨ b = 1 by omega) with rfl | rfl <;> omega
  rw [L_X5_move_33, if_neg (nI_pos (by omega)), shl2 v (by omega), shlb hb (by omega), nI_add, nI_add, inb_f (by omega) (by decide), nI_clamp (by omega), own5_N N h1 hB (by omega), show 2 ^ (v + 1) + h + b * 2 ^ v = 2 ^ (v + 1) + (h + b * 2 ^ v) by omega, hT (v + 1) (Nat.zero_le _) (by omega) (h + b * 2 ^ v) (by omega)]
  show (if bI (gv leaf B (n - (v + 1)) (v + 1) (h + b * 2 ^ v)) = bI (decide (bt B v = 1)) then _ else _) = _
  cases gv leaf B (n - (v + 1)) (v + 1) (h + b * 2 ^ v) <;> cases decide (bt B v = 1) <;> rfl
theorem move_c {N n B C Ln : Nat} {R : Int32} {pos neg s : Nat → Int32} (hN : 2000 ≤ N) (o : Ok n B C Ln) (m : Ms n B C Ln R pos neg s) (bits : Nat → Int64) (st : Bool) (hst : st = true ∨ BT (mC pos neg C) B n 0 bits) (w : Nat → Bool) (x y th : Int32) (out : Nat → Int64) : ∃ c b' st' out' r w', F_L_move N 1 x y (nI n) (nI B) (nI C) pos neg bits st out = some (c, b', st', out') ∧ (st' = true ∨ BT (mC pos neg C) B n 0 b') ∧ F_X5_move N x y s th w = some (r, c, w') ∧ (c = 0 → out' 0 = r.toInt64) := by
  have hn := o.1
  rcases reqV N x (s := s) hn m.1 with ⟨t, i⟩ | ⟨v, hv, rfl, t, f, i⟩
  · refine ⟨1, bits, st, out, 0, w, ?_, hst, ?_, fun q => absurd q (by decide)⟩
    · unfold F_L_move T_X4_move; rw [t]; rfl
    · unfold F_X5_move F_X5_whyNotAt; rw [i]; rfl
  · rcases reqH N y (show v ≤ 9 by omega) with ⟨t2, i2⟩ | ⟨h, hh, rfl, t2, f2, i2⟩
    · refine ⟨2, bits, st, out, 0, w, ?_, hst, ?_, fun q => absurd q (by decide)⟩
      · unfold F_L_move T_X4_move; rw [t, f, t2]; rfl
      · unfold F_X5_move F_X5_whyNotAt; rw [i]
        show ob1 (ob1 (F_X5_in N y 0 (((1 : Int32) <<< (nI v &&& 31)) - 1)) _) _ = _
        rw [i2]; rfl
    · obtain ⟨b', e1, t1⟩ := bring_N hN o.1 o.2.1 o.2.2.1 o.2.2.2.2.1 bits st hst
      obtain ⟨w', e2, t3⟩ := lays_N hN m.2.1 m.2.2.1 (ok_512 o) o.2.2.2.2.1 o.1 w
      have p1 := pw9 (show v ≤ 9 by omega)
      have p2 : 2 ^ (v + 1) = 2 ^ v + 2 ^ v := by rw [Nat.pow_succ]; omega
      have hB := ok_512 o
      let r : Int32 := if gv (mC pos neg C) B (n - (v + 1)) (v + 1) (h + 0 * 2 ^ v) = decide (bt B v = 1) then (if gv (mC pos neg C) B (n - (v + 1)) (v + 1) (h + 1 * 2 ^ v) = decide (bt B v = 1) then -1 else 1) else 0
      refine ⟨0, b', false, vp_updL out 0 r.toInt64, r, w', ?_, .inr t1, ?_, fun _ => updL_s _ _ _⟩
      · have q1 : F_X4_move N (nI v) (nI h) (nI n) (nI B) (nI C) pos neg bits st = some (r, b', false) := by
          unfold F_X4_move; rw [f, f2, e1]
          show ob1 (F_X3_ownerOf N (nI v) (nI B)) (fun r_6 => ob1 (F_X4_winnerIn N (nI v + 1) (nI h) (nI B) b') (fun r_8 => if r_8 = r_6 then some (0, b', false) else ob1 (F_X4_winnerIn N (nI v + 1) (nI h ||| (nI 1 <<< (nI v &&& 31))) (nI B) b') (fun r_11 => if r_11 = r_6 then some (1, b', false) else some (-1, b', false)))) = _
          rw [owner_N N hB (by omega), or_bit hh (by decide) (by omega), nI_1, winnerIn_N N o.2.1 o.1 o.2.2.1 t1 (by omega) (show h < 2 ^ (v + 1) by omega), winnerIn_N N o.2.1 o.1 o.2.2.1 t1 (by omega) (show h + 1 * 2 ^ v < 2 ^ (v + 1) by omega)]
          show (if (if gv (mC pos neg C) B (n - (v + 1)) (v + 1) h = true then (0 : Int32) else 1) = nI (bt B v) then some ((0 : Int32), b', false) else if (if gv (mC pos neg C) B (n - (v + 1)) (v + 1) (h + 1 * 2 ^ v) = true then (0 : Int32) else 1) = nI (bt B v) then some ((1 : Int32), b', false) else some ((-1 : Int32), b', false)) = some (if gv (mC pos neg C) B (n - (v + 1)) (v + 1) (h + 0 * 2 ^ v) = decide (bt B v = 1) then (if gv (mC pos neg C) B (n - (v + 1)) (v + 1) (h + 1 * 2 ^ v) = decide (bt B v = 1) then -1 else 1) else 0, b', false)
          rw [Nat.zero_mul, Nat.add_zero]
          rcases bt_01 B v with e | e <;> rw [e] <;> cases gv (mC pos neg C) B (n - (v + 1)) (v + 1) h <;> cases gv (mC pos neg C) B (n - (v + 1)) (v + 1) (h + 1 * 2 ^ v) <;> rfl
        unfold F_L_move T_X4_move; rw [t, f, t2, q1]; rfl
      · unfold F_X5_move F_X5_whyNotAt; rw [i]
        show ob1 (ob1 (F_X5_in N (nI h) 0 (((1 : Int32) <<< (nI v &&& 31)) - 1)) _) _ = _
        rw [i2]
        show ob1 (F_X5_lays N (s 0) s w) _ = _
        rw [m.1, e2]
        obtain ⟨q, rfl⟩ : ∃ q, N = q + 3 := ⟨N - 3, by omega⟩
        show L_X5_move_33 (q + 3) s (nI v) (nI h) w' _ (q + 3) (-1) (nI 1) = _
        rw [mv_step m.2.1 hB hn hv hh (by decide) t3, show nI 1 + (-1) = nI 0 from by decide, mv_step m.2.1 hB hn hv hh (by decide) t3, L_X5_move_33, if_pos (by decide), ms_mF' m]
        rfl
theorem beats_c {N n B C Ln : Nat} {R : Int32} {pos neg s : Nat → Int32} (hN : 2000 ≤ N) (o : Ok n B C Ln) (m : Ms n B C Ln R pos neg s) (bits : Nat → Int64) (st : Bool) (hst : st = true ∨ BT (mC pos neg C) B n 0 bits) (w : Nat → Bool) (fi : Nat → Int32) (x th : Int32) (out : Nat → Int64) : ∃ c b' st' out' r w' f', F_L_beats N 1 x (nI n) (nI B) (nI C) pos neg bits st out = some (c, b', st', out') ∧ (st' = true ∨ BT (mC pos neg C) B n 0 b') ∧ F_X5_beats N x s th w fi = some (r, c, w', f') ∧ (c = 0 → out' 0 = b64 r) := by
  have hB := ok_512 o
  have p1 := pb8 o.2.2.1
  have p2 := pb256 o.2.2.1
  have p3 := pw_pos (2 ^ pc B)
  have fail : (x < 0 ∨ ¬ x ≤ nI (2 ^ 2 ^ pc B - 1)) → F_X5_in N x 0 (nI (2 ^ 2 ^ pc B) - 1) = some false → ∃ c b' st' out' r w' f', F_L_beats N 1 x (nI n) (nI B) (nI C) pos neg bits st out = some (c, b', st', out') ∧ (st' = true ∨ BT (mC pos neg C) B n 0 b') ∧ F_X5_beats N x s th w fi = some (r, c, w', f') ∧ (c = 0 → out' 0 = b64 r) := by
    intro hy i2
    refine ⟨1, bits, st, out, false, w, fi, ?_, hst, ?_, fun q => absurd q (by decide)⟩
    · unfold F_L_beats T_X4_beats
      by_cases e : x < 0
      · rw [if_pos e]; rfl
      · rw [if_neg e, allPlays_N N hB o.2.2.1]
        show hb (if x ≤ nI (2 ^ 2 ^ pc B - 1) then none else some 1) _ _ = _
        rw [if_neg (hy.resolve_left e)]; rfl
    · unfold F_X5_beats; rw [plays5_N hN m.2.1 hB o.2.2.1]
      show ob1 (F_X5_in N x 0 (((1 : Int32) <<< (nI (2 ^ pc B) &&& 31)) - 1)) _ = _
      rw [shl1 _ (by omega), i2]; rfl
  rcases neg_or x with h | ⟨S, hS, rfl⟩
  · exact fail (.inl h) (in_neg N h)
  · by_cases e : S < 2 ^ 2 ^ pc B
    · obtain ⟨b', e1, t1⟩ := bring_N hN o.1 o.2.1 o.2.2.1 o.2.2.2.2.1 bits st hst
      obtain ⟨f', e2, t2⟩ := finds_N hN m.1 m.2.1 o.2.1 o.2.2.1 o.1 fi
      obtain ⟨w', e3, t3⟩ := against_N hN m.1 m.2.1 m.2.2.1 o.2.1 o.2.2.1 o.2.2.2.2.1 o.1 (show S < 256 by omega) t2 w
      refine ⟨0, b', false, vp_updL out 0 (b64 (gv (lfS B n (mC pos neg C) S) B n 0 0)), gv (lfS B n (mC pos neg C) S) B n 0 0, w', f', ?_, .inr t1, ?_, fun _ => updL_s _ _ _⟩
      · unfold F_L_beats T_X4_beats F_X4_beats
        rw [if_neg (nI_pos hS), if_neg (nI_pos hS), allPlays_N N hB o.2.2.1, e1]
        show hb (if nI S ≤ nI (2 ^ 2 ^ pc B - 1) then none else some 1) _ (ob3 (if nI S ≤ nI (2 ^ 2 ^ pc B - 1) then ob1 (F_X0_has N (nI 0) (nI 0) (nI S) b') _ else none) _) = _
        rw [if_nle hS (by omega), if_pos (by omega), if_nle hS (by omega), if_pos (by omega), has_B t1 o.1 (Nat.zero_le _) (by decide) (by omega), Nat.sub_zero]
        cases gv (lfS B n (mC pos neg C) S) B n 0 0 <;> rfl
      · unfold F_X5_beats; rw [plays5_N hN m.2.1 hB o.2.2.1]
        show ob1 (F_X5_in N (nI S) 0 (((1 : Int32) <<< (nI (2 ^ pc B) &&& 31)) - 1)) _ = _
        rw [shl1 _ (by omega), in_pred N hS (by omega), decide_eq_true e, e2]
        show ob2 (F_X5_against N (nI S) s w f') _ = _
        rw [e3, ms_mF' m]; rfl
    · exact fail (.inr (fun q => e (by have := (nI_leI hS (by omega)).mp q; omega))) (by rw [in_pred N hS (by omega), decide_eq_false e])
