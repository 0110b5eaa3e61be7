/-! THE PURE SIDE: answers, ways -/
def gA (B n C Ln : Nat) (pos neg : Nat → Int32) (v h : Nat) : Bool := gv (lfS B n (mC pos neg C) Ln) B (n - v) v h
theorem values_N {N n B C Ln p : Nat} {pos neg : Nat → Int32} {bits : Nat → Int64} (hN : 2000 ≤ N) (hB : B < 512) (hn : n ≤ 9) (hL : Ln < 256) (hp : p < 512) (hT : BT (mC pos neg C) B n 0 bits) : F_X4_valuesAgainst N (nI p) (nI n) (nI B) (nI Ln) bits = some (nI (an (gA B n C Ln pos neg) B p n)) := by
  have step : ∀ (d m v : Nat), v + d = n → d < m → L_X4_valuesAgainst_7 N (nI n) (nI B) (nI Ln) bits (nI p) (fun u => some u) m (nI (an (gA B n C Ln pos neg) B p v)) (nI (cnt B v)) (nI v) = some (nI (an (gA B n C Ln pos neg) B p n)) := by
    intro d
    induction d with
    | zero =>
      intro m v hd hm
      obtain ⟨m, rfl⟩ : ∃ q, m = q + 1 := ⟨m - 1, by omega⟩
      rw [L_X4_valuesAgainst_7, if_nle (by omega) (by omega), if_pos (by omega), show v = n by omega]
    | succ d ih =>
      intro m v hd hm
      obtain ⟨m, rfl⟩ : ∃ q, m = q + 1 := ⟨m - 1, by omega⟩
      have hc := cnt_le B v
      have hi := ih m (v + 1) (by omega) (by omega)
      rw [show an (gA B n C Ln pos neg) B p (v + 1) = an (gA B n C Ln pos neg) B p v + (if bt B v = 1 then bt p (cnt B v) else if gA B n C Ln pos neg (v + 1) (an (gA B n C Ln pos neg) B p v) = true then 0 else 1) * 2 ^ v from rfl, show cnt B (v + 1) = cnt B v + bt B v from rfl] at hi
      have hl := an_lt (gA B n C Ln pos neg) B p v
      have p1 : 2 ^ v ≤ 256 := Nat.le_trans (pw_le (show v ≤ 8 by omega)) (by decide)
      have p2 : 2 ^ (v + 1) = 2 ^ v + 2 ^ v := by rw [Nat.pow_succ]; omega
      generalize an (gA B n C Ln pos neg) B p v = h at hi hl ⊢
      rw [L_X4_valuesAgainst_7, if_nle (by omega) (by omega), if_neg (by omega), owner_N N hB (by omega), bit_N N (by omega) (by omega)]
      rw [show nI v + 1 = nI (v + 1) from nI_1 v, nI_1 (cnt B v), has_B hT hn (by omega) (show h < 2 ^ (v + 1) by omega) hL]
      show (if nI (bt B v) = 1 then L_X4_valuesAgainst_7 N (nI n) (nI B) (nI Ln) bits (nI p) (fun u => some u) m (nI h ||| (nI (bt p (cnt B v)) <<< (nI v &&& 31))) (nI (cnt B v + 1)) (nI (v + 1)) else (if gA B n C Ln pos neg (v + 1) h = true then L_X4_valuesAgainst_7 N (nI n) (nI B) (nI Ln) bits (nI p) (fun u => some u) m (nI h ||| (nI 0 <<< (nI v &&& 31))) (nI (cnt B v)) (nI (v + 1)) else L_X4_valuesAgainst_7 N (nI n) (nI B) (nI Ln) bits (nI p) (fun u => some u) m (nI h ||| (nI 1 <<< (nI v &&& 31))) (nI (cnt B v)) (nI (v + 1)))) = _
      rw [or_bit hl (bt_lt _ _) (by omega), or_bit hl (by decide) (by omega), or_bit hl (by decide) (by omega)]
      rcases bt_01 B v with e | e
      · rw [e] at hi ⊢
        rw [if_neg (by decide)]
        cases e2 : gA B n C Ln pos neg (v + 1) h
        · rw [e2] at hi; simpa using hi
        · rw [e2] at hi; simpa using hi
      · rw [e] at hi ⊢
        rw [if_pos (by decide)]
        simpa using hi
  unfold F_X4_valuesAgainst
  exact step n N 0 (by omega) (by omega)
theorem answer_c {N n B C Ln : Nat} {R : Int32} {pos neg s : Nat → Int32} (hN : 2000 ≤ N) (o : Ok n B C Ln) (m : Ms n B C Ln R pos neg s) (bits : Nat → Int64) (st : Bool) (hst : st = true ∨ BT (mC pos neg C) B n 0 bits) (w : Nat → Bool) (fi : Nat → Int32) (x y th : Int32) (out : Nat → Int64) : ∃ c b' st' out' r w' f', F_L_answer N 1 x y (nI n) (nI B) (nI C) pos neg (nI Ln) bits st out = some (c, b', st', out') ∧ (st' = true ∨ BT (mC pos neg C) B n 0 b') ∧ F_X5_answer N x y s th w fi = some (r, c, w', f') ∧ (c = 0 → out' 0 = r.toInt64) := by
  have hB := ok_512 o
  have hn := o.1
  have hL := ok_L o
  have p1 := pb8 o.2.2.1
  rcases reqV N x (s := s) hn m.1 with ⟨t, i⟩ | ⟨v, hv, rfl, t, f, i⟩
  · refine ⟨1, bits, st, out, 0, w, fi, ?_, hst, ?_, fun q => absurd q (by decide)⟩
    · unfold F_L_answer T_X4_answer; rw [t]; rfl
    · unfold F_X5_answer; rw [i]; rfl
  · have ow := owner_N N hB (show v < 32 by omega)
    have ow5 := own5_N N m.2.1 hB (show v < 32 by omega)
    rcases bt_01 B v with e | e
    · rw [e] at ow
      rw [e, decide_eq_false (by decide)] at ow5
      rcases reqP (N := N) y hN m.2.1 hB o.2.2.1 with ⟨t2, i2, -⟩ | ⟨p, hp, rfl, t2, f2, i2, -⟩
      · refine ⟨2, bits, st, out, 0, w, fi, ?_, hst, ?_, fun q => absurd q (by decide)⟩
        · unfold F_L_answer T_X4_answer; rw [t, f, ow]
          show hb (if nI 0 = 1 then some 1 else xb (T_X4_requirePlay N y (nI B)) none) _ _ = _
          rw [if_neg (by decide), t2]; rfl
        · unfold F_X5_answer; rw [i, ow5, i2]; rfl
      · obtain ⟨b', e1, t1⟩ := bring_N hN o.1 o.2.1 o.2.2.1 o.2.2.2.2.1 bits st hst
        obtain ⟨f', e2, t3⟩ := finds_N hN m.1 m.2.1 o.2.1 o.2.2.1 o.1 fi
        obtain ⟨w', e3, t4⟩ := against_N hN m.1 m.2.1 m.2.2.1 o.2.1 o.2.2.1 o.2.2.2.2.1 o.1 hL t3 w
        rw [ms_mF' m] at e3 t4
        have hl := an_lt (gA B n C Ln pos neg) B p n
        have p9 := pw9 hn
        let r : Int32 := if gv (lfS B n (mC pos neg C) Ln) B n 0 0 = true then nI (bt (an (gA B n C Ln pos neg) B p n) v) else -1
        refine ⟨0, b', false, vp_updL out 0 r.toInt64, r, w', f', ?_, .inr t1, ?_, fun _ => updL_s _ _ _⟩
        · have q1 : F_X4_answer N (nI v) (nI p) (nI n) (nI B) (nI C) pos neg (nI Ln) bits st = some (r, b', false) := by
            unfold F_X4_answer; rw [f, ow, f2, e1]
            show (if nI 0 = 1 then none else ob1 (F_X0_has N (nI 0) (nI 0) (nI Ln) b') (fun r_9 => if r_9 = true then ob1 (F_X4_valuesAgainst N (nI p) (nI n) (nI B) (nI Ln) b') (fun r_12 => ob1 (F_X4_bit N r_12 (nI v)) (fun r_14 => some (r_14, b', false))) else some (-1, b', false))) = some (if gv (lfS B n (mC pos neg C) Ln) B n 0 0 = true then nI (bt (an (gA B n C Ln pos neg) B p n) v) else -1, b', false)
            rw [if_neg (by decide), has_B t1 o.1 (Nat.zero_le _) (by decide) (by omega), Nat.sub_zero, values_N hN hB hn hL (by omega) t1]
            show (if gv (lfS B n (mC pos neg C) Ln) B n 0 0 = true then ob1 (F_X4_bit N (nI (an (gA B n C Ln pos neg) B p n)) (nI v)) (fun r_14 => some (r_14, b', false)) else some (-1, b', false)) = _
            rw [bit_N N (by omega) (by omega)]
            cases gv (lfS B n (mC pos neg C) Ln) B n 0 0 <;> rfl
          unfold F_L_answer T_X4_answer; rw [t, f, ow, q1]
          show hb (if nI 0 = 1 then some 1 else xb (T_X4_requirePlay N (nI p) (nI B)) none) _ _ = _
          rw [if_neg (by decide), t2]; rfl
        · unfold F_X5_answer; rw [i, ow5, i2, e2]
          show ob2 (F_X5_against N (s 3) s w f') (fun r_15 t_wins_16 => if r_15 = true then ob1 (F_X5_answers N (nI p) s t_wins_16) _ else _) = _
          rw [m.2.2.2.1, e3]
          show (if gv (lfS B n (mC pos neg C) Ln) B n 0 0 = true then ob1 (F_X5_answers N (nI p) s w') (fun r_22 => ob2 (F_X5_tells N ((r_22 >>> (nI v &&& 31)) &&& 1) th) (fun a b => some (a, b, w', f'))) else some (-1, 0, w', f')) = some (if gv (lfS B n (mC pos neg C) Ln) B n 0 0 = true then nI (bt (an (gA B n C Ln pos neg) B p n) v) else -1, 0, w', f')
          rw [answers_N hN m.1 m.2.1 hB hn (by omega) _ t4]
          show (if gv (lfS B n (mC pos neg C) Ln) B n 0 0 = true then some ((nI (an (gA B n C Ln pos neg) B p n) >>> (nI v &&& 31)) &&& 1, (0 : Int32), w', f') else some (-1, 0, w', f')) = _
          rw [shr_and (by omega) (by omega)]
          cases gv (lfS B n (mC pos neg C) Ln) B n 0 0 <;> rfl
    · rw [e] at ow
      rw [e, decide_eq_true rfl] at ow5
      refine ⟨2, bits, st, out, 0, w, fi, ?_, hst, ?_, fun q => absurd q (by decide)⟩
      · unfold F_L_answer T_X4_answer; rw [t, f, ow]; rfl
      · unfold F_X5_answer; rw [i, ow5]; rfl
def wy (mf : Nat → Bool) (B n p : Nat) : Nat → Nat
  | 0 => 0
  | h + 1 => wy mf B n p h + if p = pl B h n ∧ mf h = true then 1 else 0
theorem wy_le (mf : Nat → Bool) (B n p h : Nat) : wy mf B n p h ≤ h := by
  induction h with
  | zero => exact Nat.le_refl _
  | succ h ih =>
    show wy mf B n p h + (if p = pl B h n ∧ mf h = true then 1 else 0) ≤ h + 1
    split <;> omega
theorem ways3_N {N n B C p : Nat} {pos neg : Nat → Int32} (hN : 2000 ≤ N) (hB : B < 512) (hn : n ≤ 9) (hC : C ≤ 20) (hp : p < 512) : L_X4_ways_20 N (nI n) (nI B) (nI C) pos neg (nI p) (fun u => some u) N 0 0 = some (nI (wy (mC pos neg C) B n p (2 ^ n))) := by
  have p9 := pw9 hn
  have step : ∀ (d m h : Nat), h + d = 2 ^ n → d < m → L_X4_ways_20 N (nI n) (nI B) (nI C) pos neg (nI p) (fun u => some u) m (nI (wy (mC pos neg C) B n p h)) (nI h) = some (nI (wy (mC pos neg C) B n p (2 ^ n))) := by
    intro d
    induction d with
    | zero =>
      intro m h hd hm
      obtain ⟨m, rfl⟩ : ∃ q, m = q + 1 := ⟨m - 1, by omega⟩
      rw [L_X4_ways_20, shl1 n (by omega), if_nle (by omega) (by omega), if_pos (by omega), show h = 2 ^ n by omega]
    | succ d ih =>
      intro m h hd hm
      obtain ⟨m, rfl⟩ : ∃ q, m = q + 1 := ⟨m - 1, by omega⟩
      have hi := ih m (h + 1) (by omega) (by omega)
      have hl := pl_lt B h n
      have hl2 : 2 ^ cnt B n ≤ 512 := pw9 (Nat.le_trans (cnt_le B n) hn)
      rw [show wy (mC pos neg C) B n p (h + 1) = wy (mC pos neg C) B n p h + (if p = pl B h n ∧ mC pos neg C h = true then 1 else 0) from rfl] at hi
      rw [L_X4_ways_20, shl1 n (by omega), if_nle (by omega) (by omega), if_neg (by omega), playIn_N hN hn hB (by omega), holds_N hN hC]
      show (if nI (pl B h n) = nI p then (if mC pos neg C h = true then L_X4_ways_20 N (nI n) (nI B) (nI C) pos neg (nI p) (fun u => some u) m (nI (wy (mC pos neg C) B n p h) + 1) (nI h + 1) else L_X4_ways_20 N (nI n) (nI B) (nI C) pos neg (nI p) (fun u => some u) m (nI (wy (mC pos neg C) B n p h)) (nI h + 1)) else L_X4_ways_20 N (nI n) (nI B) (nI C) pos neg (nI p) (fun u => some u) m (nI (wy (mC pos neg C) B n p h)) (nI h + 1)) = _
      rw [if_neq (by omega) (by omega), nI_1, nI_1]
      by_cases e : pl B h n = p
      · rw [if_pos e]
        cases e2 : mC pos neg C h
        · rw [e2, if_neg (fun q => absurd q.2 (by decide))] at hi
          exact hi
        · rw [e2, if_pos ⟨e.symm, rfl⟩] at hi
          exact hi
      · rw [if_neg e]
        rw [if_neg (fun q => e q.1.symm)] at hi
        exact hi
  exact step (2 ^ n) N 0 (by omega) (by omega)
theorem ways5_N {N n B C p : Nat} {s pos neg : Nat → Int32} (hN : 2000 ≤ N) (h0 : s 0 = nI n) (h1 : s 1 = nI B) (h2 : s 2 = nI C) (hm : ∀ h, mF s C h = mC pos neg C h) (hB : B < 512) (hn : n ≤ 9) (hC : C ≤ 20) (hp : p < 2 ^ cnt B n) : F_X5_waysOf N (nI p) s = some (nI (wy (mC pos neg C) B n p (2 ^ n))) := by
  have p9 := pw9 hn
  have hl2 : 2 ^ cnt B n ≤ 512 := pw9 (Nat.le_trans (cnt_le B n) hn)
  have step : ∀ (d m h : Nat), h + d = 2 ^ n → d < m → L_X5_waysOf_4 N s (nI p) (fun u => some u) m (nI (wy (mC pos neg C) B n p h)) (nI h) = some (nI (wy (mC pos neg C) B n p (2 ^ n))) := by
    intro d
    induction d with
    | zero =>
      intro m h hd hm
      obtain ⟨m, rfl⟩ : ∃ q, m = q + 1 := ⟨m - 1, by omega⟩
      rw [L_X5_waysOf_4, h0, shl1 n (by omega), if_nle (by omega) (by omega), if_pos (by omega), show h = 2 ^ n by omega]
    | succ d ih =>
      intro m h hd hm'
      obtain ⟨m, rfl⟩ : ∃ q, m = q + 1 := ⟨m - 1, by omega⟩
      have hi := ih m (h + 1) (by omega) (by omega)
      rw [show wy (mC pos neg C) B n p (h + 1) = wy (mC pos neg C) B n p h + (if p = pl B h n ∧ mC pos neg C h = true then 1 else 0) from rfl] at hi
      rw [L_X5_waysOf_4, h0, shl1 n (by omega), if_nle (by omega) (by omega), if_neg (by omega), isAs_N hN h1 hn hB (by omega) (by omega), sA_play hp, made_N hN hC h2]
      show (if decide (p = pl B h n) = true then (if mF s C h = true then L_X5_waysOf_4 N s (nI p) (fun u => some u) m (nI (wy (mC pos neg C) B n p h) + nI 1) (nI h + nI 1) else L_X5_waysOf_4 N s (nI p) (fun u => some u) m (nI (wy (mC pos neg C) B n p h) + nI 0) (nI h + nI 1)) else L_X5_waysOf_4 N s (nI p) (fun u => some u) m (nI (wy (mC pos neg C) B n p h) + nI 0) (nI h + nI 1)) = _
      rw [nI_add, nI_add, nI_add, hm]
      by_cases e : p = pl B h n
      · rw [decide_eq_true e, if_pos rfl]
        cases e2 : mC pos neg C h
        · rw [e2, if_neg (fun q => absurd q.2 (by decide))] at hi
          exact hi
        · rw [e2, if_pos ⟨e, rfl⟩] at hi
          exact hi
      · rw [decide_eq_false e, if_neg (by decide)]
        rw [if_neg (fun q => e q.1)] at hi
        exact hi
  unfold F_X5_waysOf
  exact step (2 ^ n) N 0 (by omega) (by omega)
theorem ways_c {N n B C Ln : Nat} {R : Int32} {pos neg s : Nat → Int32} (hN : 2000 ≤ N) (o : Ok n B C Ln) (m : Ms n B C Ln R pos neg s) (x th : Int32) (out : Nat → Int64) : ∃ c out' r, F_L_ways N 1 x (nI n) (nI B) (nI C) pos neg out = some (c, out') ∧ F_X5_ways N x s th = some (r, c) ∧ (c = 0 → out' 0 = r.toInt64) := by
  have hB := ok_512 o
  have p1 := pb8 o.2.2.1
  rcases reqP (N := N) x hN m.2.1 hB o.2.2.1 with ⟨t, i, -⟩ | ⟨p, hp, rfl, t, f, i, -⟩
  · refine ⟨1, out, 0, ?_, ?_, fun q => absurd q (by decide)⟩
    · unfold F_L_ways T_X4_ways; rw [t]; rfl
    · unfold F_X5_ways; rw [i]; rfl
  · refine ⟨0, vp_updL out 0 (nI (wy (mC pos neg C) B n p (2 ^ n))).toInt64, nI (wy (mC pos neg C) B n p (2 ^ n)), ?_, ?_, fun _ => updL_s _ _ _⟩
    · unfold F_L_ways T_X4_ways F_X4_ways
      rw [t, f, ways3_N hN hB o.1 o.2.2.2.2.1 (by omega)]; rfl
    · unfold F_X5_ways
      rw [i, ways5_N hN m.1 m.2.1 m.2.2.1 (ms_mF m) hB o.1 o.2.2.2.2.1 (by rw [← pc_n o.1 o.2.1]; exact hp)]; rfl
