/-! THE PURE SIDE: calls that only ask -/
theorem g01 {α : Type} (x : Option α) : gd (inb 0 1) x = x := gd_t (by decide)
theorem reqV (N : Nat) (x : Int32) {n : Nat} {s : Nat → Int32} (hn : n ≤ 9) (h0 : s 0 = nI n) : (T_X4_requireVariable N x (nI n) = some 3 ∧ F_X5_isVariable N x s = some false) ∨ ∃ k, k < n ∧ x = nI k ∧ T_X4_requireVariable N (nI k) (nI n) = none ∧ F_X4_requireVariable N (nI k) (nI n) = some () ∧ F_X5_isVariable N (nI k) s = some true := by
  rcases neg_or x with h | ⟨k, hk, rfl⟩
  · exact .inl ⟨if_pos h, isVariable_neg N h⟩
  · by_cases e : k < n
    · refine .inr ⟨k, e, rfl, ?_, ?_, by rw [isVariable_N N h0 hn hk, decide_eq_true e]⟩
      · unfold T_X4_requireVariable; rw [if_neg (nI_pos hk), if_nlt hk (by omega), if_pos e]
      · unfold F_X4_requireVariable; rw [if_neg (nI_pos hk), if_nlt hk (by omega), if_pos e]
    · refine .inl ⟨?_, by rw [isVariable_N N h0 hn hk, decide_eq_false e]⟩
      unfold T_X4_requireVariable; rw [if_neg (nI_pos hk), if_nlt hk (by omega), if_neg e]
theorem reqC (N : Nat) (x : Int32) {C : Nat} {s : Nat → Int32} (hC : C ≤ 20) (h2 : s 2 = nI C) : (T_X4_requireClause N x (nI C) = some 3 ∧ F_X5_isClause N x s = some false) ∨ ∃ k, k < C ∧ x = nI k ∧ T_X4_requireClause N (nI k) (nI C) = none ∧ F_X4_requireClause N (nI k) (nI C) = some () ∧ F_X5_isClause N (nI k) s = some true := by
  rcases neg_or x with h | ⟨k, hk, rfl⟩
  · exact .inl ⟨if_pos h, isClause_neg N h⟩
  · by_cases e : k < C
    · refine .inr ⟨k, e, rfl, ?_, ?_, by rw [isClause_N N h2 hC hk, decide_eq_true e]⟩
      · unfold T_X4_requireClause; rw [if_neg (nI_pos hk), if_nlt hk (by omega), if_pos e]
      · unfold F_X4_requireClause; rw [if_neg (nI_pos hk), if_nlt hk (by omega), if_pos e]
    · refine .inl ⟨?_, by rw [isClause_N N h2 hC hk, decide_eq_false e]⟩
      unfold T_X4_requireClause; rw [if_neg (nI_pos hk), if_nlt hk (by omega), if_neg e]
theorem reqP {N : Nat} (x : Int32) {B : Nat} {s : Nat → Int32} (hN : 2000 ≤ N) (h1 : s 1 = nI B) (hB : B < 512) (hp : pc B ≤ 3) : (T_X4_requirePlay N x (nI B) = some 1 ∧ F_X5_isPlay N x s = some false ∧ F_X3_hasPlay N x (nI B) = some false) ∨ ∃ k, k < 2 ^ pc B ∧ x = nI k ∧ T_X4_requirePlay N (nI k) (nI B) = none ∧ F_X4_requirePlay N (nI k) (nI B) = some () ∧ F_X5_isPlay N (nI k) s = some true ∧ F_X3_hasPlay N (nI k) (nI B) = some true := by
  rcases neg_or x with h | ⟨k, hk, rfl⟩
  · refine .inl ⟨?_, isPlay_neg hN h1 hB hp h, hasPlay_neg N h⟩
    unfold T_X4_requirePlay; rw [hasPlay_neg N h]; rfl
  · by_cases e : k < 2 ^ pc B
    · refine .inr ⟨k, e, rfl, ?_, ?_, by rw [isPlay_N hN h1 hB hp hk, decide_eq_true e], by rw [hasPlay_N N hB hp hk, decide_eq_true e]⟩
      · unfold T_X4_requirePlay; rw [hasPlay_N N hB hp hk, decide_eq_true e]; rfl
      · unfold F_X4_requirePlay; rw [hasPlay_N N hB hp hk, decide_eq_true e]; rfl
    · refine .inl ⟨?_, by rw [isPlay_N hN h1 hB hp hk, decide_eq_false e], by rw [hasPlay_N N hB hp hk, decide_eq_false e]⟩
      unfold T_X4_requirePlay; rw [hasPlay_N N hB hp hk, decide_eq_false e]; rfl
theorem reqH (N : Nat) (y : Int32) {v : Nat} (hv : v ≤ 9) : (T_X4_requireHistory N (nI v) y = some 1 ∧ F_X5_in N y 0 (((1 : Int32) <<< (nI v &&& 31)) - 1) = some false) ∨ ∃ h, h < 2 ^ v ∧ y = nI h ∧ T_X4_requireHistory N (nI v) (nI h) = none ∧ F_X4_requireHistory N (nI v) (nI h) = some () ∧ F_X5_in N (nI h) 0 (((1 : Int32) <<< (nI v &&& 31)) - 1) = some true := by
  have p1 := pw9 hv
  rw [shl1 v (by omega)]
  rcases neg_or y with h | ⟨k, hk, rfl⟩
  · exact .inl ⟨if_pos h, in_neg N h⟩
  · have h1 : k / 2 ^ v < 2 ^ 31 := Nat.lt_of_le_of_lt (Nat.div_le_self _ _) hk
    by_cases e : k < 2 ^ v
    · refine .inr ⟨k, e, rfl, ?_, ?_, by rw [in_pred N hk (by omega), decide_eq_true e]⟩
      · unfold T_X4_requireHistory; rw [if_neg (nI_pos hk), shr_N hk (by omega), n0, if_neq h1 (by decide), if_pos (div_pow.mpr e)]
      · unfold F_X4_requireHistory; rw [if_neg (nI_pos hk), shr_N hk (by omega), n0, if_neq h1 (by decide), if_pos (div_pow.mpr e)]
    · refine .inl ⟨?_, by rw [in_pred N hk (by omega), decide_eq_false e]⟩
      unfold T_X4_requireHistory; rw [if_neg (nI_pos hk), shr_N hk (by omega), n0, if_neq h1 (by decide), if_neg (fun q => e (div_pow.mp q))]
theorem setQ (N : Nat) (x : Int32) {n : Nat} {s : Nat → Int32} (hn : n ≤ 9) (h0 : s 0 = nI n) : (F_X3_hasVariables N x (nI n) = some false ∧ F_X5_isSet N x s = some false) ∨ ∃ k, k < 2 ^ n ∧ x = nI k ∧ F_X3_hasVariables N (nI k) (nI n) = some true ∧ F_X5_isSet N (nI k) s = some true := by
  rcases neg_or x with h | ⟨k, hk, rfl⟩
  · exact .inl ⟨hasVariables_neg N h, isSet_neg N h⟩
  · by_cases e : k < 2 ^ n
    · exact .inr ⟨k, e, rfl, by rw [hasVariables_N N hk (by omega), decide_eq_true e], by rw [isSet_N N h0 hn hk, decide_eq_true e]⟩
    · exact .inl ⟨by rw [hasVariables_N N hk (by omega), decide_eq_false e], by rw [isSet_N N h0 hn hk, decide_eq_false e]⟩
def b64 (b : Bool) : Int64 := if b = true then 1 else 0
theorem isBreakers_c {N n B : Nat} {s : Nat → Int32} (hn : n ≤ 9) (hB : B < 512) (h0 : s 0 = nI n) (h1 : s 1 = nI B) (x th : Int32) (out : Nat → Int64) : ∃ c out' r, F_L_isBreakers N 1 x (nI n) (nI B) out = some (c, out') ∧ F_X5_isBreakers N x s th = some (r, c) ∧ (c = 0 → out' 0 = b64 r) := by
  rcases reqV N x (s := s) hn h0 with ⟨t, i⟩ | ⟨k, hk, rfl, t, f, i⟩
  · refine ⟨1, out, false, ?_, ?_, fun q => absurd q (by decide)⟩
    · unfold F_L_isBreakers T_X4_isBreakers; rw [t]; rfl
    · unfold F_X5_isBreakers; rw [i]; rfl
  · refine ⟨0, vp_updL out 0 (b64 (decide (bt B k = 1))), decide (bt B k = 1), ?_, ?_, fun _ => updL_s _ _ _⟩
    · unfold F_L_isBreakers T_X4_isBreakers F_X4_isBreakers; rw [t, f, owner_N N hB (by omega)]
      rcases bt_01 B k with e | e <;> rw [e] <;> rfl
    · unfold F_X5_isBreakers; rw [i, own5_N N h1 hB (by omega)]
      rcases bt_01 B k with e | e <;> rw [e] <;> rfl
theorem isTrue_c {N n C : Nat} {s pos neg : Nat → Int32} (hN : 2000 ≤ N) (hn : n ≤ 9) (hC : C ≤ 20) (h0 : s 0 = nI n) (h2 : s 2 = nI C) (hm : ∀ h, mF s C h = mC pos neg C h) (x th : Int32) (out : Nat → Int64) : ∃ c out' r, F_L_isTrue N 1 x (nI n) (nI C) pos neg out = some (c, out') ∧ F_X5_isTrue N x s th = some (r, c) ∧ (c = 0 → out' 0 = b64 r) := by
  rcases setQ N x (s := s) hn h0 with ⟨t, i⟩ | ⟨k, hk, rfl, t, i⟩
  · refine ⟨1, out, false, ?_, ?_, fun q => absurd q (by decide)⟩
    · unfold F_L_isTrue T_X4_isTrue; rw [t]; rfl
    · unfold F_X5_isTrue; rw [i]; rfl
  · refine ⟨0, vp_updL out 0 (b64 (mC pos neg C k)), mC pos neg C k, ?_, ?_, fun _ => updL_s _ _ _⟩
    · unfold F_L_isTrue T_X4_isTrue F_X4_isTrue; rw [t, holds_N hN hC]
      show hb none _ (ob1 (some (mC pos neg C k)) _) = _
      cases mC pos neg C k <;> rfl
    · unfold F_X5_isTrue; rw [i, made_N hN hC h2]
      show ob1 (some true) (fun r => if r = true then ob1 (some (mF s C k)) _ else _) = _
      rw [hm]
      cases mC pos neg C k <;> rfl
theorem clause_q {N C k j : Nat} {s pos neg : Nat → Int32} (hC : C ≤ 20) (f : F_X4_requireClause N (nI k) (nI C) = some ()) (hp : ∀ k, k < C → s (5 + k) = pos k) (hq : ∀ k, k < C → s (25 + k) = neg k) (hk : k < C) (hj : j < 2 ^ 31) (e : j ≤ 2) : ∃ r, F_X4_clause N (nI k) (nI j) (nI C) pos neg = some r ∧ F_X5_ofClause N (nI k) (nI j) s = some r := by
  unfold F_X4_clause F_X5_ofClause
  rw [f, read_N N pos (by omega) (by decide), read_N N neg (by omega) (by decide), show (5 : Int32) = nI 5 from rfl, show (25 : Int32) = nI 25 from rfl, nI_add, nI_add, inb_f (by omega) (by decide), inb_f (by omega) (by decide), nI_clamp (by omega), nI_clamp (by omega), hp k hk, hq k hk]
  show ∃ r, (if nI j < 0 then none else if nI j ≤ nI 2 then (if nI j = 0 then some (pos k) else if nI j = 1 then some (neg k) else if pos k &&& neg k = 0 then some 0 else some 1) else none) = some r ∧ _
  rw [if_neg (nI_pos hj), if_nle hj (by decide), if_pos e]
  by_cases e0 : nI j = 0
  · rw [if_pos e0]; exact ⟨_, rfl, rfl⟩
  · rw [if_neg e0]
    by_cases e1 : nI j = 1
    · rw [if_pos e1]; exact ⟨_, rfl, rfl⟩
    · rw [if_neg e1]
      by_cases e2 : pos k &&& neg k = 0
      · rw [if_pos e2]; exact ⟨_, rfl, rfl⟩
      · rw [if_neg e2]; exact ⟨_, rfl, rfl⟩
theorem clause_c {N C : Nat} {s pos neg : Nat → Int32} (hC : C ≤ 20) (h2 : s 2 = nI C) (hp : ∀ k, k < C → s (5 + k) = pos k) (hq : ∀ k, k < C → s (25 + k) = neg k) (x y th : Int32) (out : Nat → Int64) : ∃ c out' r, F_L_clause N 1 x y (nI C) pos neg out = some (c, out') ∧ F_X5_clause N x y s th = some (r, c) ∧ (c = 0 → out' 0 = r.toInt64) := by
  rcases reqC N x (s := s) hC h2 with ⟨t, i⟩ | ⟨k, hk, rfl, t, f, i⟩
  · refine ⟨1, out, 0, ?_, ?_, fun q => absurd q (by decide)⟩
    · unfold F_L_clause T_X4_clause; rw [t]; rfl
    · unfold F_X5_clause; rw [i]; rfl
  · have fail : (y < 0 ∨ ¬ y ≤ 2) → F_X5_in N y 0 2 = some false → ∃ c out' r, F_L_clause N 1 (nI k) y (nI C) pos neg out = some (c, out') ∧ F_X5_clause N (nI k) y s th = some (r, c) ∧ (c = 0 → out' 0 = r.toInt64) := by
      intro hy i2
      refine ⟨2, out, 0, ?_, ?_, fun q => absurd q (by decide)⟩
      · unfold F_L_clause T_X4_clause; rw [t, f]
        show hb (if y < 0 then some 1 else if y ≤ 2 then none else some 1) _ _ = _
        by_cases e : y < 0
        · rw [if_pos e]; rfl
        · rw [if_neg e, if_neg (hy.resolve_left e)]; rfl
      · unfold F_X5_clause; rw [i, i2]; rfl
    rcases neg_or y with h | ⟨j, hj, rfl⟩
    · exact fail (.inl h) (in_neg N h)
    · have i2 := in_N N hj (show 0 < 2 ^ 31 by decide) (show 2 < 2 ^ 31 by decide)
      by_cases e : j ≤ 2
      · rw [decide_eq_true (by omega)] at i2
        obtain ⟨r, q1, q2⟩ := clause_q (N := N) hC f hp hq hk hj e
        refine ⟨0, vp_updL out 0 r.toInt64, r, ?_, ?_, fun _ => updL_s _ _ _⟩
        · unfold F_L_clause T_X4_clause; rw [t, f, q1]
          show hb (if nI j < 0 then some 1 else if nI j ≤ nI 2 then none else some 1) _ _ = _
          rw [if_neg (nI_pos hj), if_nle hj (by decide), if_pos e]; rfl
        · unfold F_X5_clause; rw [i]
          show ob1 (F_X5_in N (nI j) (nI 0) (nI 2)) _ = _
          rw [i2]
          show ob1 (F_X5_ofClause N (nI k) (nI j) s) _ = _
          rw [q2]; rfl
      · rw [decide_eq_false (by omega)] at i2
        exact fail (.inr (fun q => e ((nI_leI hj (by decide)).mp q))) i2
theorem value_c {N n B C Ln : Nat} {R : Int32} {pos neg s : Nat → Int32} (hN : 2000 ≤ N) (o : Ok n B C Ln) (m : Ms n B C Ln R pos neg s) {k : Nat} (hk : k ≤ 6) : ∃ r, F_X4_value N (nI k) (nI n) (nI B) (nI C) (nI Ln) R = some r ∧ F_X5_number N (nI k) s = some r := by
  have hB := ok_512 o
  have hL := ok_L o
  obtain ⟨m0, m1, m2, m3, m4, -, -⟩ := m
  unfold F_X4_value F_X5_number
  rw [m0, m1, m2, m3, m4, bitCount_N N hB, bitCount_N N (show Ln < 512 by omega), ones_N (show 10 ≤ N by omega) hB, ones_N (show 10 ≤ N by omega) (show Ln < 512 by omega), plays3_N N hB o.2.2.1, plays5_N hN m1 hB o.2.2.1]
  rcases (show k = 0 ∨ k = 1 ∨ k = 2 ∨ k = 3 ∨ k = 4 ∨ k = 5 ∨ k = 6 by omega) with e | e | e | e | e | e | e <;> subst e <;> exact ⟨_, rfl, rfl⟩
theorem values_c {N n B C Ln : Nat} {R : Int32} {pos neg s : Nat → Int32} (hN : 2000 ≤ N) (o : Ok n B C Ln) (m : Ms n B C Ln R pos neg s) (x th : Int32) (out : Nat → Int64) : ∃ c out' r, F_L_value N 1 x (nI n) (nI B) (nI C) (nI Ln) R out = some (c, out') ∧ F_X5_value N x s th = some (r, c) ∧ (c = 0 → out' 0 = r.toInt64) := by
  have fail : (x < 0 ∨ ¬ x ≤ 6) → F_X5_in N x 0 6 = some false → ∃ c out' r, F_L_value N 1 x (nI n) (nI B) (nI C) (nI Ln) R out = some (c, out') ∧ F_X5_value N x s th = some (r, c) ∧ (c = 0 → out' 0 = r.toInt64) := by
    intro hy i2
    refine ⟨1, out, 0, ?_, ?_, fun q => absurd q (by decide)⟩
    · unfold F_L_value T_X4_value
      by_cases e : x < 0
      · rw [if_pos e]; rfl
      · rw [if_neg e, if_neg (hy.resolve_left e)]; rfl
    · unfold F_X5_value; rw [i2]; rfl
  rcases neg_or x with h | ⟨j, hj, rfl⟩
  · exact fail (.inl h) (in_neg N h)
  · have i2 := in_N N hj (show 0 < 2 ^ 31 by decide) (show 6 < 2 ^ 31 by decide)
    by_cases e : j ≤ 6
    · rw [decide_eq_true (by omega)] at i2
      obtain ⟨r, q1, q2⟩ := value_c hN o m e
      refine ⟨0, vp_updL out 0 r.toInt64, r, ?_, ?_, fun _ => updL_s _ _ _⟩
      · unfold F_L_value T_X4_value
        rw [q1, if_neg (nI_pos hj), show (6 : Int32) = nI 6 from rfl, if_nle hj (by decide), if_pos e]; rfl
      · unfold F_X5_value
        show ob1 (F_X5_in N (nI j) (nI 0) (nI 6)) _ = _
        rw [i2]
        show ob1 (F_X5_number N (nI j) s) _ = _
        rw [q2]; rfl
    · rw [decide_eq_false (by omega)] at i2
      exact fail (.inr (fun q => e ((nI_leI hj (by decide)).mp q))) i2
