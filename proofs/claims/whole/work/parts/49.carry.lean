/-! THE PURE SIDE: a whole text -/
theorem ob7_s {α1 α2 α3 α4 α5 α6 α7 β : Type} (a : α1) (b : α2) (c : α3) (d : α4) (e : α5) (f : α6) (g : α7) (k : α1 → α2 → α3 → α4 → α5 → α6 → α7 → Option β) : ob7 (some (a, b, c, d, e, f, g)) k = k a b c d e f g := rfl
def WF (N : Nat) (bytes text : Nat → Int32) (t : Nat) : Nat → Nat → Prop
  | 0, a => a = t
  | d + 1, a => a = t ∨ ∃ a' k P Q p, GO N bytes text t a a' k P Q p ∧ WF N bytes text t d a'
theorem end3 {N t : Nat} (ht : t ≤ 100) (bytes : Nat → Int32) (err kd cP cQ cp : Int32) : F_X1_readOrder N bytes (nI t) (nI t) err kd cP cQ cp = some (false, nI t, err, kd, cP, cQ, cp) := by
  unfold F_X1_readOrder
  rw [if_neg (nI_nlt (Nat.le_refl _) (by omega))]
theorem text_c {N t : Nat} {bytes text : Nat → Int32} (hN : 2000 ≤ N) (tx : TX bytes t text) : ∀ (d a j : Nat), a ≤ t → t - a ≤ d → 2 * j ≤ a → (WF N bytes text t d a ∧ (∀ kont q err kd cP cQ cp, d < q → ∃ at' kd' P' Q' p', L_X1_syntaxError_6 N (nI t) bytes kont q (nI j) (nI a) err kd cP cQ cp = kont at' err kd' P' Q' p') ∧ ∀ kont q lt one oth, d < q → ∃ a' l o1 o2, L_X5_wrong_5 N (nI t) text kont q (nI a) lt one oth = some (-1, a', l, o1, o2)) ∨ ∃ e, e ≤ t ∧ (∀ kont q err kd cP cQ cp, d < q → ∃ at' kd' P' Q' p', L_X1_syntaxError_6 N (nI t) bytes kont q (nI j) (nI a) err kd cP cQ cp = kont at' (nI e) kd' P' Q' p') ∧ ∀ kont q lt one oth, d < q → ∃ l o1 o2, L_X5_wrong_5 N (nI t) text kont q (nI a) lt one oth = kont (nI e) l o1 o2 := by
  have ht := tx.1
  have last : ∀ (d j : Nat), (∀ kont q err kd cP cQ cp, d < q → ∃ at' kd' P' Q' p', L_X1_syntaxError_6 N (nI t) bytes kont q (nI j) (nI t) err kd cP cQ cp = kont at' err kd' P' Q' p') ∧ ∀ kont q lt one oth, d < q → ∃ a' l o1 o2, L_X5_wrong_5 N (nI t) text kont q (nI t) lt one oth = some (-1, a', l, o1, o2) := by
    intro d j
    refine ⟨fun kont q err kd cP cQ cp hq => ?_, fun kont q lt one oth hq => ?_⟩
    · obtain ⟨q, rfl⟩ : ∃ q', q = q' + 1 := ⟨q - 1, by omega⟩
      rw [L_X1_syntaxError_6, end3 ht]
      by_cases e : (50 : Int32) ≤ nI j
      · rw [if_pos e]; exact ⟨_, _, _, _, _, rfl⟩
      · rw [if_neg e]; exact ⟨nI t, kd, cP, cQ, cp, rfl⟩
    · obtain ⟨q, rfl⟩ : ∃ q', q = q' + 1 := ⟨q - 1, by omega⟩
      rw [L_X5_wrong_5, if_pos (nI_le (Nat.le_refl _) (by omega))]
      exact ⟨_, _, _, _, rfl⟩
  intro d
  induction d with
  | zero =>
    intro a j ha hd hj
    have ea : a = t := by omega
    subst ea
    exact .inl ⟨rfl, last 0 j⟩
  | succ d ih =>
    intro a j ha hd hj
    by_cases ea : a = t
    · subst ea
      exact .inl ⟨.inl rfl, last (d + 1) j⟩
    · have n50 : ¬ (50 : Int32) ≤ nI j := nI_ge (b := 50) (by omega) (by decide)
      have nlt : ¬ nI t ≤ nI a := nI_ge (by omega) (by omega)
      rcases order_c (N := N) hN tx (show a < t by omega) with ⟨a', k, P, Q, p, go⟩ | ⟨e, h1, h2, h3⟩
      · have go' := go
        obtain ⟨g1, g2, g3, g4, g5, g6, g7, g8⟩ := go'
        rcases ih a' (j + 1) g2 (by omega) (by omega) with ⟨h1, h2, h3⟩ | ⟨e, h1, h2, h3⟩
        · refine .inl ⟨.inr ⟨a', k, P, Q, p, go, h1⟩, fun kont q err kd cP cQ cp hq => ?_, fun kont q lt one oth hq => ?_⟩
          · obtain ⟨q, rfl⟩ : ∃ q', q = q' + 1 := ⟨q - 1, by omega⟩
            rw [L_X1_syntaxError_6, if_neg n50, g7, nI_1]
            exact h2 kont q err _ _ _ _ (by omega)
          · obtain ⟨q, rfl⟩ : ∃ q', q = q' + 1 := ⟨q - 1, by omega⟩
            rw [L_X5_wrong_5, if_neg nlt, g8]
            exact h3 kont q _ _ _ (by omega)
        · refine .inr ⟨e, h1, fun kont q err kd cP cQ cp hq => ?_, fun kont q lt one oth hq => ?_⟩
          · obtain ⟨q, rfl⟩ : ∃ q', q = q' + 1 := ⟨q - 1, by omega⟩
            rw [L_X1_syntaxError_6, if_neg n50, g7, nI_1]
            exact h2 kont q err _ _ _ _ (by omega)
          · obtain ⟨q, rfl⟩ : ∃ q', q = q' + 1 := ⟨q - 1, by omega⟩
            rw [L_X5_wrong_5, if_neg nlt, g8]
            exact h3 kont q _ _ _ (by omega)
      · refine .inr ⟨e, h1, fun kont q err kd cP cQ cp hq => ?_, fun kont q lt one oth hq => ?_⟩
        · obtain ⟨q, rfl⟩ : ∃ q', q = q' + 1 := ⟨q - 1, by omega⟩
          obtain ⟨x, kd', P', Q', p', h⟩ := h2 err kd cP cQ cp
          rw [L_X1_syntaxError_6, if_neg n50, h]
          exact ⟨x, kd', P', Q', p', rfl⟩
        · obtain ⟨q, rfl⟩ : ∃ q', q = q' + 1 := ⟨q - 1, by omega⟩
          obtain ⟨l, o1, o2, h⟩ := h3 lt one oth
          rw [L_X5_wrong_5, if_neg nlt, h]
          exact ⟨l, o1, o2, rfl⟩
theorem or_lt {P Q n : Nat} : P ||| Q < 2 ^ n ↔ P < 2 ^ n ∧ Q < 2 ^ n :=
  ⟨fun h => ⟨Nat.lt_of_le_of_lt Nat.left_le_or h, Nat.lt_of_le_of_lt Nat.right_le_or h⟩, fun h => Nat.or_lt_two_pow h.1 h.2⟩
theorem obeyV {N n B C Ln : Nat} {R : Int32} {pos neg s : Nat → Int32} (hN : 2000 ≤ N) (o : Ok n B C Ln) (m : Ms n B C Ln R pos neg s) (bits : Nat → Int64) (st : Bool) (hst : st = true ∨ BT (mC pos neg C) B n 0 bits) (own : Bool) : ∃ b V' B' L' st' s', F_X4_obeyVariable N own (nI n) (nI B) (nI Ln) st = some (b, V', B', L', st') ∧ F_X5_canAdd N own s = some b ∧ (if b = true then F_X5_adds N own s = some (nI n, s') else s' = s) ∧ XR V' B' (nI C) pos neg L' R s' st' bits := by
  obtain ⟨b, r1, r2, r3⟩ := room_c hN o m own
  unfold F_X4_obeyVariable
  rw [r1, r2]
  cases b
  · exact ⟨false, nI n, nI B, nI Ln, st, s, rfl, rfl, rfl, ⟨n, B, C, Ln, rfl, rfl, rfl, rfl, o, m, hst⟩⟩
  · obtain ⟨s', e4, e5, m'⟩ := puts_c (N := N) o m own st
    refine ⟨true, nI (n + 1), nI (nB own n B), nI 0, true, s', ?_, rfl, e5, ⟨_, _, _, _, rfl, rfl, rfl, rfl, r3 rfl, m', .inl rfl⟩⟩
    rw [e4]; rfl
theorem obey_c {N n B C Ln P Q p : Nat} {R k : Int32} {pos neg s : Nat → Int32} (hN : 2000 ≤ N) (o : Ok n B C Ln) (m : Ms n B C Ln R pos neg s) (bits : Nat → Int64) (st : Bool) (hst : st = true ∨ BT (mC pos neg C) B n 0 bits) (w : Nat → Bool) (fi : Nat → Int32) (hP : P < 512) (hQ : Q < 512) (hk : kindOk k) (cP cQ cp one oth : Int32) : ∃ b V' B' C' pos' neg' L' R' bits' st' s' w' f', F_X4_obeyOrder N (nI n) (nI B) (nI C) pos neg (nI Ln) R bits st k (if k = 99 then nI P else cP) (if k = 99 then nI Q else cQ) (if k = 108 then nI p else cp) = some (b, V', B', C', pos', neg', L', R', bits', st') ∧ F_X5_does N s k (if k = 99 then nI P else if k = 108 then nI p else one) (if k = 99 then nI Q else oth) w fi = some (b, s', w', f') ∧ XR V' B' C' pos' neg' L' R' s' st' bits' := by
  unfold F_X4_obeyOrder F_X5_does
  rcases hk with rfl | rfl | rfl | rfl | rfl
  · simp only [m_e_c, m_e_u, m_e_l, if_true, if_false]
    obtain ⟨b, V', B', L', st', s', e1, e2, e3, x⟩ := obeyV hN o m bits st hst false
    rw [e1, e2]
    refine ⟨b, V', B', nI C, pos, neg, L', R, bits, st', s', w, fi, rfl, ?_, x⟩
    cases b
    · cases e3; rfl
    · simp only [ob1_s, if_true] at e3 ⊢
      rw [e3]; rfl
  · simp only [m_u_c, m_u_e, m_u_l, if_true, if_false]
    obtain ⟨b, V', B', L', st', s', e1, e2, e3, x⟩ := obeyV hN o m bits st hst true
    rw [e1, e2]
    refine ⟨b, V', B', nI C, pos, neg, L', R, bits, st', s', w, fi, rfl, ?_, x⟩
    cases b
    · cases e3; rfl
    · simp only [ob1_s, if_true] at e3 ⊢
      rw [e3]; rfl
  · simp only [m_c_e, m_c_u, m_c_l, if_true, if_false]
    have hor : P ||| Q < 512 := Nat.or_lt_two_pow (n := 9) hP hQ
    have hC := o.2.2.2.2.1
    have k3 : F_X4_obeyClause N (nI P) (nI Q) (nI n) (nI C) pos neg (nI Ln) st = if P ||| Q < 2 ^ n ∧ C < 20 then ob5 (F_X4_putClause N (nI P) (nI Q) (nI C) pos neg (nI Ln) st) (fun a b c d e => some (true, a, b, c, d, e)) else some (false, nI C, pos, neg, nI Ln, st) := by
      unfold F_X4_obeyClause
      rw [nI_or, hasVariables_N N (by omega) (by have := o.1; omega), show (20 : Int32) = nI 20 from rfl, if_nlt (by omega) (by decide)]
      by_cases e1 : P ||| Q < 2 ^ n
      · rw [decide_eq_true e1]
        by_cases e2 : C < 20
        · rw [if_pos e2, if_pos ⟨e1, e2⟩]; rfl
        · rw [if_neg e2, if_neg (fun q => e2 q.2)]; rfl
      · rw [decide_eq_false e1, if_neg (show ¬ (P ||| Q < 2 ^ n ∧ C < 20) from fun q => e1 q.1)]; rfl
    have k5 : ∃ c, F_X5_whyNotClause N (nI P) (nI Q) s = some (nI c) ∧ c < 3 ∧ (c = 0 ↔ P ||| Q < 2 ^ n ∧ C < 20) := by
      unfold F_X5_whyNotClause
      rw [isSet_N N m.1 o.1 (by omega), isSet_N N m.1 o.1 (by omega), m.2.2.1, or_lt]
      by_cases e1 : P < 2 ^ n
      · rw [decide_eq_true e1]
        by_cases e2 : Q < 2 ^ n
        · rw [decide_eq_true e2]
          by_cases e3 : C = 20
          · exact ⟨2, by subst e3; rfl, by decide, by omega⟩
          · refine ⟨0, ?_, by decide, by omega⟩
            show (if nI C = nI 20 then some 2 else some 0) = _
            rw [if_neq (by omega) (by decide), if_neg e3]; rfl
        · rw [decide_eq_false e2]
          exact ⟨1, rfl, by decide, by omega⟩
      · rw [decide_eq_false e1]
        exact ⟨1, rfl, by decide, by omega⟩
    obtain ⟨c, k5, hc3, hc⟩ := k5
    rw [k3, k5]
    simp only [ob1_s]
    by_cases e : P ||| Q < 2 ^ n ∧ C < 20
    · obtain ⟨s', e4, e5, m'⟩ := putC_c (N := N) m e.2 (nI P) (nI Q) st
      rw [if_pos e, hc.mpr e, e4, if_pos (show nI 0 = 0 from rfl), e5]
      exact ⟨true, nI n, nI B, nI (C + 1), upd pos C (nI P), upd neg C (nI Q), nI 0, R, bits, true, s', w, fi, rfl, rfl, ⟨n, B, C + 1, 0, rfl, rfl, rfl, rfl, ⟨o.1, o.2.1, o.2.2.1, o.2.2.2.1, by have := e.2; omega, pw_pos _⟩, m', .inl rfl⟩⟩
    · rw [if_neg e, if_neg (show ¬ nI c = 0 from fun q => e (hc.mp (nI_inj (b := 0) (by omega) (by decide) q)))]
      exact ⟨false, nI n, nI B, nI C, pos, neg, nI Ln, R, bits, st, s, w, fi, rfl, rfl, ⟨n, B, C, Ln, rfl, rfl, rfl, rfl, o, m, hst⟩⟩
  · simp only [m_l_e, m_l_u, m_l_c, if_true, if_false]
    have p1 := pb8 o.2.2.1
    have hz : s 3 ||| 0 = nI Ln := by rw [m.2.2.2.1, nI_oz]
    unfold F_X4_obeyLearn
    rcases whyL (N := N) hN o m (nI p) with ⟨a, -, h⟩ | ⟨p', hp, ep, -, -, h, ⟨-, a, h2⟩ | ⟨hb, a, h2⟩⟩
    · rw [a, h, hz]
      exact ⟨false, nI n, nI B, nI C, pos, neg, nI Ln, R, bits, st, upd s 3 (nI Ln), w, fi, rfl, rfl, ⟨n, B, C, Ln, rfl, rfl, rfl, rfl, o, ms_3 m Ln, hst⟩⟩
    · rw [a, h, h2, hz]
      exact ⟨false, nI n, nI B, nI C, pos, neg, nI Ln, R, bits, st, upd s 3 (nI Ln), w, fi, rfl, rfl, ⟨n, B, C, Ln, rfl, rfl, rfl, rfl, o, ms_3 m Ln, hst⟩⟩
    · rw [a, h, h2, m.2.2.2.1, ep, shl1 p' (by omega), nI_or]
      exact ⟨true, nI n, nI B, nI C, pos, neg, nI (Ln ||| 2 ^ p'), R, bits, st, upd s 3 (nI (Ln ||| 2 ^ p')), w, fi, rfl, rfl, ⟨n, B, C, Ln ||| 2 ^ p', rfl, rfl, rfl, rfl, ok_learn o hp, ms_3 m _, hst⟩⟩
  · simp only [m_r_e, m_r_u, m_r_c, m_r_l, if_false]
    obtain ⟨r, Ln', bits', s', w', f', a1, a2, a3, a4, a5, -⟩ := rounds_N hN o m bits st hst w fi
    rw [a1, a3]
    exact ⟨true, nI n, nI B, nI C, pos, neg, nI Ln', R + 1, bits', false, s', w', f', rfl, rfl, ⟨n, B, C, Ln', rfl, rfl, rfl, rfl, a4, a5, .inr a2⟩⟩
theorem ob10_s {α1 α2 α3 α4 α5 α6 α7 α8 α9 α10 β : Type} (a : α1) (b : α2) (c : α3) (d : α4) (e : α5) (f : α6) (g : α7) (h : α8) (i : α9) (j : α10) (k : α1 → α2 → α3 → α4 → α5 → α6 → α7 → α8 → α9 → α10 → Option β) : ob10 (some (a, b, c, d, e, f, g, h, i, j)) k = k a b c d e f g h i j := rfl
theorem carry_loop {N t : Nat} {bytes text : Nat → Int32} (hN : 2000 ≤ N) (tx : TX bytes t text) (kont3 : Int32 → Int32 → Int32 → Int32 → (Nat → Int32) → (Nat → Int32) → Int32 → Int32 → (Nat → Int64) → Bool → Int32 → Int32 → Int32 → Int32 → Int32 → Int32 → Option (Int32 × Int32 × Int32 × Int32 × (Nat → Int32) × (Nat → Int32) × Int32 × Int32 × (Nat → StT) × Int32 × Int32 × (Nat → Int64) × Bool × Int32 × Int32 × Int32 × Int32 × Int32 × Int32)) (kont5 : Int32 → (Nat → Int32) → Int32 → Int32 → Int32 → Int32 → (Nat → Bool) → (Nat → Int32) → Option (Int32 × (Nat → Int32) × (Nat → Int32) × (Nat → Int32) × Int32 × Int32 × Int32 × Int32 × Int32 × Int32 × (Nat → Bool) × (Nat → Int32))) : ∀ (d a j q : Nat) (V Br Cl : Int32) (pos neg : Nat → Int32) (L R : Int32) (bits : Nat → Int64) (st : Bool) (s : Nat → Int32) (err kd cP cQ cp lt one oth : Int32) (w : Nat → Bool) (fi : Nat → Int32), WF N bytes text t d a → a ≤ t → 2 * j ≤ a → d < q → XR V Br Cl pos neg L R s st bits → ∃ j' V' B' C' pos' neg' L' R' bits' st' at' err' kd' P' Q' p' s' at5 l o1 o2 w' f', L_X4_carryOut_38 N (nI t) bytes kont3 q (nI j) V Br Cl pos neg L R bits st (nI a) err kd cP cQ cp = kont3 j' V' B' C' pos' neg' L' R' bits' st' at' err' kd' P' Q' p' ∧ L_X5_carryOut_31 N (nI t) text kont5 q (nI j) true s (nI a) lt one oth w fi = kont5 j' s' at5 l o1 o2 w' f' ∧ XR V' B' C' pos' neg' L' R' s' st' bits' := by
  have ht := tx.1
  have last : ∀ (j q : Nat) (V Br Cl : Int32) (pos neg : Nat → Int32) (L R : Int32) (bits : Nat → Int64) (st : Bool) (s : Nat → Int32) (err kd cP cQ cp lt one oth : Int32) (w : Nat → Bool) (fi : Nat → Int32), 0 < q → XR V Br Cl pos neg L R s st bits → ∃ j' V' B' C' pos' neg' L' R' bits' st' at' err' kd' P' Q' p' s' at5 l o1 o2 w' f', L_X4_carryOut_38 N (nI t) bytes kont3 q (nI j) V Br Cl pos neg L R bits st (nI t) err kd cP cQ cp = kont3 j' V' B' C' pos' neg' L' R' bits' st' at' err' kd' P' Q' p' ∧ L_X5_carryOut_31 N (nI t) text kont5 q (nI j) true s (nI t) lt one oth w fi = kont5 j' s' at5 l o1 o2 w' f' ∧ XR V' B' C' pos' neg' L' R' s' st' bits' := by
    intro j q V Br Cl pos neg L R bits st s err kd cP cQ cp lt one oth w fi hq x
    obtain ⟨q, rfl⟩ : ∃ q', q = q' + 1 := ⟨q - 1, by omega⟩
    refine ⟨nI j, V, Br, Cl, pos, neg, L, R, bits, st, nI t, err, kd, cP, cQ, cp, s, nI t, lt, one, oth, w, fi, ?_, ?_, x⟩
    · rw [L_X4_carryOut_38, end3 ht]
      by_cases e : (50 : Int32) ≤ nI j
      · rw [if_pos e]
      · rw [if_neg e]; rfl
    · rw [L_X5_carryOut_31, if_pos (nI_le (Nat.le_refl _) (by omega))]
  intro d
  induction d with
  | zero =>
    intro a j q V Br Cl pos neg L R bits st s err kd cP cQ cp lt one oth w fi wf ha hj hq x
    have ea : a = t := wf
    subst ea
    exact last j q V Br Cl pos neg L R bits st s err kd cP cQ cp lt one oth w fi (by omega) x
  | succ d ih =>
    intro a j q V Br Cl pos neg L R bits st s err kd cP cQ cp lt one oth w fi wf ha hj hq x
    have wf' : a = t ∨ ∃ a' k P Q p, GO N bytes text t a a' k P Q p ∧ WF N bytes text t d a' := wf
    rcases wf' with ea | ⟨a', k, P, Q, p, ⟨g1, g2, g3, g4, g5, g6, g7, g8⟩, wf2⟩
    · subst ea
      exact last j q V Br Cl pos neg L R bits st s err kd cP cQ cp lt one oth w fi (by omega) x
    · obtain ⟨q, rfl⟩ : ∃ q', q = q' + 1 := ⟨q - 1, by omega⟩
      have n50 : ¬ (50 : Int32) ≤ nI j := nI_ge (b := 50) (by omega) (by decide)
      have nlt : ¬ nI t ≤ nI a := nI_ge (by omega) (by omega)
      obtain ⟨n, B, C, Ln, rfl, rfl, rfl, rfl, o, m, hst⟩ := x
      obtain ⟨b, V', B', C', pos', neg', L', R', bits', st', s', w', f', e3, e5, x'⟩ := obey_c (p := p) hN o m bits st hst w fi g3 g4 g6 cP cQ cp one oth
      have k3 : L_X4_carryOut_38 N (nI t) bytes kont3 (q + 1) (nI j) (nI n) (nI B) (nI C) pos neg (nI Ln) R bits st (nI a) err kd cP cQ cp = if b = true then L_X4_carryOut_38 N (nI t) bytes kont3 q (nI (j + 1)) V' B' C' pos' neg' L' R' bits' st' (nI a') err k (if k = 99 then nI P else cP) (if k = 99 then nI Q else cQ) (if k = 108 then nI p else cp) else kont3 (nI j) V' B' C' pos' neg' L' R' bits' st' (nI a') err k (if k = 99 then nI P else cP) (if k = 99 then nI Q else cQ) (if k = 108 then nI p else cp) := by
        rw [L_X4_carryOut_38, if_neg n50, g7, ob7_s, if_pos rfl, e3, ob10_s, nI_1]
      have k5 : L_X5_carryOut_31 N (nI t) text kont5 (q + 1) (nI j) true s (nI a) lt one oth w fi = if b = true then L_X5_carryOut_31 N (nI t) text kont5 q (nI (j + 1)) b s' (nI a') k (if k = 99 then nI P else if k = 108 then nI p else one) (if k = 99 then nI Q else oth) w' f' else L_X5_carryOut_31 N (nI t) text kont5 q (nI j) b s' (nI a') k (if k = 99 then nI P else if k = 108 then nI p else one) (if k = 99 then nI Q else oth) w' f' := by
        rw [L_X5_carryOut_31, if_neg nlt, if_pos rfl, g8, ob5_s, e5, ob4_s, nI_1, nI_z]
      rw [k3, k5]
      cases b
      · refine ⟨nI j, V', B', C', pos', neg', L', R', bits', st', nI a', err, k, (if k = 99 then nI P else cP), (if k = 99 then nI Q else cQ), (if k = 108 then nI p else cp), s', nI a', k, (if k = 99 then nI P else if k = 108 then nI p else one), (if k = 99 then nI Q else oth), w', f', if_neg (by decide), ?_, x'⟩
        obtain ⟨q, rfl⟩ : ∃ q', q = q' + 1 := ⟨q - 1, by omega⟩
        rw [if_neg (by decide), L_X5_carryOut_31]
        by_cases e : nI t ≤ nI a'
        · rw [if_pos e]
        · rw [if_neg e, if_neg (by decide)]
      · rw [if_pos rfl, if_pos rfl]
        exact ih a' (j + 1) q V' B' C' pos' neg' L' R' bits' st' s' err k _ _ _ k _ _ w' f' wf2 g2 (by omega) (by omega) x'
theorem carryOut_c {N n B C Ln ol c t : Nat} {R : Int32} {pos neg s past begun bytes text : Nat → Int32} {ring : Nat → StT} (hN : 2000 ≤ N) (o : Ok n B C Ln) (m : Ms n B C Ln R pos neg s) (sv : SV ring ol c past) (tx : TX bytes t text) (bits : Nat → Int64) (st : Bool) (hst : st = true ∨ BT (mC pos neg C) B n 0 bits) (w : Nat → Bool) (fi : Nat → Int32) (th at3 err kd cP cQ cp at5 lt one oth : Int32) : ∃ r V' B' C' pos' neg' L' R' ring' ol' c' bits' st' at' err' kd' P' Q' p' s' past' begun' a5 l o1 o2 w' f', F_X4_carryOut N (nI n) (nI B) (nI C) pos neg (nI Ln) R ring (nI ol) (nI c) bits st bytes (nI t) at3 err kd cP cQ cp = some (r, V', B', C', pos', neg', L', R', ring', nI ol', nI c', bits', st', at', err', kd', P', Q', p') ∧ F_X5_carryOut N s past begun (nI c) th text (nI t) at5 lt one oth w fi = some (r, s', past', begun', nI c', 0, a5, l, o1, o2, w', f') ∧ XR V' B' C' pos' neg' L' R' s' st' bits' ∧ SV ring' ol' c' past' := by
  have ht := tx.1
  have x : XR (nI n) (nI B) (nI C) pos neg (nI Ln) R s st bits := ⟨n, B, C, Ln, rfl, rfl, rfl, rfl, o, m, hst⟩
  unfold F_X4_carryOut F_X5_carryOut F_X1_syntaxError F_X1_rewind F_X5_wrong
  rcases text_c hN tx t 0 0 (by omega) (by omega) (by omega) with ⟨wf, h3, h5⟩ | ⟨e, he, h3, h5⟩
  · obtain ⟨a1, k1, P1, Q1, p1, e3⟩ := h3 (fun t_at_11 t_error_12 t_kind_13 t_positive_14 t_negative_15 t_play_16 => some (t_error_12, t_at_11, t_error_12, t_kind_13, t_positive_14, t_negative_15, t_play_16)) N (-1) kd cP cQ cp (by omega)
    obtain ⟨a2, l2, o12, o22, e5⟩ := h5 (fun t_at_5 t_letter_6 t_one_7 t_other_8 => some (t_at_5, t_at_5, t_letter_6, t_one_7, t_other_8)) N lt one oth (by omega)
    obtain ⟨b', e1, t1⟩ := begins_N hN s begun
    obtain ⟨ring', ol', c', past', e2, sv', e4⟩ := save_c hN o m sv t1
    obtain ⟨j', V', B', C', pos', neg', L', R', bits', st', at', err', kd', P', Q', p', s', a5, l, o1, o2, w', f', q3, q5, x'⟩ := carry_loop hN tx (fun u2_33 t_state_variables_34 t_state_breakers_35 t_state_clauses_36 t_state_positive_37 t_state_negative_38 t_state_learned_39 t_state_rounds_40 t_beaten_bits_41 t_beaten_stale_42 t_text_at_43 t_text_error_44 t_text_kind_45 t_text_positive_46 t_text_negative_47 t_text_play_48 => some (u2_33, t_state_variables_34, t_state_breakers_35, t_state_clauses_36, t_state_positive_37, t_state_negative_38, t_state_learned_39, t_state_rounds_40, ring', nI ol', nI c', t_beaten_bits_41, t_beaten_stale_42, t_text_at_43, t_text_error_44, t_text_kind_45, t_text_positive_46, t_text_negative_47, t_text_play_48)) (fun u2_19 t_s_20 t_at_21 t_letter_22 t_one_23 t_other_24 t_wins_25 t_fits_26 => ob4 (F_X5_saved N u2_19 past b' (nI c) th) (fun r_41 t_past_42 t_pasts_43 t_thrown_44 => some (r_41, t_s_20, t_past_42, b', t_pasts_43, t_thrown_44, t_at_21, t_letter_22, t_one_23, t_other_24, t_wins_25, t_fits_26))) t 0 0 N (nI n) (nI B) (nI C) pos neg (nI Ln) R bits st s (-1) k1 P1 Q1 p1 l2 o12 o22 w fi wf (by omega) (by omega) (by omega) x
    refine ⟨j', V', B', C', pos', neg', L', R', ring', ol', c', bits', st', at', err', kd', P', Q', p', s', past', b', a5, l, o1, o2, w', f', ?_, ?_, x', sv'⟩
    · show ob7 (L_X1_syntaxError_6 N (nI t) bytes _ N (nI 0) (nI 0) (-1) kd cP cQ cp) _ = _
      rw [e3]
      show ob3 (F_X2_push N ring (nI ol) (nI c) (nI n) (nI B) (nI C) pos neg (nI Ln) R) _ = _
      rw [e2]
      exact q3
    · show ob5 (L_X5_wrong_5 N (nI t) text _ N (nI 0) lt one oth) _ = _
      rw [e5]
      show ob1 (F_X5_begins N s begun) _ = _
      rw [e1]
      refine q5.trans ?_
      rw [e4]; rfl
  · obtain ⟨a1, k1, P1, Q1, p1, e3⟩ := h3 (fun t_at_11 t_error_12 t_kind_13 t_positive_14 t_negative_15 t_play_16 => some (t_error_12, t_at_11, t_error_12, t_kind_13, t_positive_14, t_negative_15, t_play_16)) N (-1) kd cP cQ cp (by omega)
    obtain ⟨l2, o12, o22, e5⟩ := h5 (fun t_at_5 t_letter_6 t_one_7 t_other_8 => some (t_at_5, t_at_5, t_letter_6, t_one_7, t_other_8)) N lt one oth (by omega)
    refine ⟨(-10) - nI e, nI n, nI B, nI C, pos, neg, nI Ln, R, ring, ol, c, bits, st, a1, nI e, k1, P1, Q1, p1, s, past, begun, nI e, l2, o12, o22, w, fi, ?_, ?_, x, sv⟩
    · show ob7 (L_X1_syntaxError_6 N (nI t) bytes _ N (nI 0) (nI 0) (-1) kd cP cQ cp) _ = _
      rw [e3]
      exact if_neg (m1_nI (by omega))
    · show ob5 (L_X5_wrong_5 N (nI t) text _ N (nI 0) lt one oth) _ = _
      rw [e5]
      exact if_neg (nI_pos (by omega))
