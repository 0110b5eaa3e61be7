/-! THE PURE SIDE: the law's loop -/
theorem ob1_e {α1 β : Type} {x : Option α1} {k : α1 → Option β} {a1 : α1} {r : Option β} (h : x = some a1) (h2 : k a1 = r) : ob1 x k = r := by
  subst h
  exact h2
theorem ob2_e {α1 α2 β : Type} {x : Option (α1 × α2)} {k : α1 → α2 → Option β} {a1 : α1} {a2 : α2} {r : Option β} (h : x = some (a1, a2)) (h2 : k a1 a2 = r) : ob2 x k = r := by
  subst h
  exact h2
theorem ob3_e {α1 α2 α3 β : Type} {x : Option (α1 × α2 × α3)} {k : α1 → α2 → α3 → Option β} {a1 : α1} {a2 : α2} {a3 : α3} {r : Option β} (h : x = some (a1, a2, a3)) (h2 : k a1 a2 a3 = r) : ob3 x k = r := by
  subst h
  exact h2
theorem ob4_e {α1 α2 α3 α4 β : Type} {x : Option (α1 × α2 × α3 × α4)} {k : α1 → α2 → α3 → α4 → Option β} {a1 : α1} {a2 : α2} {a3 : α3} {a4 : α4} {r : Option β} (h : x = some (a1, a2, a3, a4)) (h2 : k a1 a2 a3 a4 = r) : ob4 x k = r := by
  subst h
  exact h2
theorem ob5_e {α1 α2 α3 α4 α5 β : Type} {x : Option (α1 × α2 × α3 × α4 × α5)} {k : α1 → α2 → α3 → α4 → α5 → Option β} {a1 : α1} {a2 : α2} {a3 : α3} {a4 : α4} {a5 : α5} {r : Option β} (h : x = some (a1, a2, a3, a4, a5)) (h2 : k a1 a2 a3 a4 a5 = r) : ob5 x k = r := by
  subst h
  exact h2
theorem ob6_e {α1 α2 α3 α4 α5 α6 β : Type} {x : Option (α1 × α2 × α3 × α4 × α5 × α6)} {k : α1 → α2 → α3 → α4 → α5 → α6 → Option β} {a1 : α1} {a2 : α2} {a3 : α3} {a4 : α4} {a5 : α5} {a6 : α6} {r : Option β} (h : x = some (a1, a2, a3, a4, a5, a6)) (h2 : k a1 a2 a3 a4 a5 a6 = r) : ob6 x k = r := by
  subst h
  exact h2
theorem ob8_e {α1 α2 α3 α4 α5 α6 α7 α8 β : Type} {x : Option (α1 × α2 × α3 × α4 × α5 × α6 × α7 × α8)} {k : α1 → α2 → α3 → α4 → α5 → α6 → α7 → α8 → Option β} {a1 : α1} {a2 : α2} {a3 : α3} {a4 : α4} {a5 : α5} {a6 : α6} {a7 : α7} {a8 : α8} {r : Option β} (h : x = some (a1, a2, a3, a4, a5, a6, a7, a8)) (h2 : k a1 a2 a3 a4 a5 a6 a7 a8 = r) : ob8 x k = r := by
  subst h
  exact h2
theorem ob9_e {α1 α2 α3 α4 α5 α6 α7 α8 α9 β : Type} {x : Option (α1 × α2 × α3 × α4 × α5 × α6 × α7 × α8 × α9)} {k : α1 → α2 → α3 → α4 → α5 → α6 → α7 → α8 → α9 → Option β} {a1 : α1} {a2 : α2} {a3 : α3} {a4 : α4} {a5 : α5} {a6 : α6} {a7 : α7} {a8 : α8} {a9 : α9} {r : Option β} (h : x = some (a1, a2, a3, a4, a5, a6, a7, a8, a9)) (h2 : k a1 a2 a3 a4 a5 a6 a7 a8 a9 = r) : ob9 x k = r := by
  subst h
  exact h2
theorem ob10_e {α1 α2 α3 α4 α5 α6 α7 α8 α9 α10 β : Type} {x : Option (α1 × α2 × α3 × α4 × α5 × α6 × α7 × α8 × α9 × α10)} {k : α1 → α2 → α3 → α4 → α5 → α6 → α7 → α8 → α9 → α10 → Option β} {a1 : α1} {a2 : α2} {a3 : α3} {a4 : α4} {a5 : α5} {a6 : α6} {a7 : α7} {a8 : α8} {a9 : α9} {a10 : α10} {r : Option β} (h : x = some (a1, a2, a3, a4, a5, a6, a7, a8, a9, a10)) (h2 : k a1 a2 a3 a4 a5 a6 a7 a8 a9 a10 = r) : ob10 x k = r := by
  subst h
  exact h2
theorem ob11_e {α1 α2 α3 α4 α5 α6 α7 α8 α9 α10 α11 β : Type} {x : Option (α1 × α2 × α3 × α4 × α5 × α6 × α7 × α8 × α9 × α10 × α11)} {k : α1 → α2 → α3 → α4 → α5 → α6 → α7 → α8 → α9 → α10 → α11 → Option β} {a1 : α1} {a2 : α2} {a3 : α3} {a4 : α4} {a5 : α5} {a6 : α6} {a7 : α7} {a8 : α8} {a9 : α9} {a10 : α10} {a11 : α11} {r : Option β} (h : x = some (a1, a2, a3, a4, a5, a6, a7, a8, a9, a10, a11)) (h2 : k a1 a2 a3 a4 a5 a6 a7 a8 a9 a10 a11 = r) : ob11 x k = r := by
  subst h
  exact h2
theorem ob12_e {α1 α2 α3 α4 α5 α6 α7 α8 α9 α10 α11 α12 β : Type} {x : Option (α1 × α2 × α3 × α4 × α5 × α6 × α7 × α8 × α9 × α10 × α11 × α12)} {k : α1 → α2 → α3 → α4 → α5 → α6 → α7 → α8 → α9 → α10 → α11 → α12 → Option β} {a1 : α1} {a2 : α2} {a3 : α3} {a4 : α4} {a5 : α5} {a6 : α6} {a7 : α7} {a8 : α8} {a9 : α9} {a10 : α10} {a11 : α11} {a12 : α12} {r : Option β} (h : x = some (a1, a2, a3, a4, a5, a6, a7, a8, a9, a10, a11, a12)) (h2 : k a1 a2 a3 a4 a5 a6 a7 a8 a9 a10 a11 a12 = r) : ob12 x k = r := by
  subst h
  exact h2
theorem ob19_e {α1 α2 α3 α4 α5 α6 α7 α8 α9 α10 α11 α12 α13 α14 α15 α16 α17 α18 α19 β : Type} {x : Option (α1 × α2 × α3 × α4 × α5 × α6 × α7 × α8 × α9 × α10 × α11 × α12 × α13 × α14 × α15 × α16 × α17 × α18 × α19)} {k : α1 → α2 → α3 → α4 → α5 → α6 → α7 → α8 → α9 → α10 → α11 → α12 → α13 → α14 → α15 → α16 → α17 → α18 → α19 → Option β} {a1 : α1} {a2 : α2} {a3 : α3} {a4 : α4} {a5 : α5} {a6 : α6} {a7 : α7} {a8 : α8} {a9 : α9} {a10 : α10} {a11 : α11} {a12 : α12} {a13 : α13} {a14 : α14} {a15 : α15} {a16 : α16} {a17 : α17} {a18 : α18} {a19 : α19} {r : Option β} (h : x = some (a1, a2, a3, a4, a5, a6, a7, a8, a9, a10, a11, a12, a13, a14, a15, a16, a17, a18, a19)) (h2 : k a1 a2 a3 a4 a5 a6 a7 a8 a9 a10 a11 a12 a13 a14 a15 a16 a17 a18 a19 = r) : ob19 x k = r := by
  subst h
  exact h2
theorem gd_r {α : Type} {c : Bool} {x r : Option α} (h : c = true) (h2 : x = r) : gd c x = r := (gd_t h).trans h2
theorem ite_c {α : Type} {c : Prop} [Decidable c] {a b r : α} (h1 : c → a = r) (h2 : ¬ c → b = r) : (if c then a else b) = r := by
  by_cases h : c
  · rw [if_pos h]; exact h1 h
  · rw [if_neg h]; exact h2 h
theorem ite_p {α : Type} {c : Prop} [Decidable c] {a b r : α} (h : c) (h1 : a = r) : (if c then a else b) = r := (if_pos h).trans h1
theorem ite_n {α : Type} {c : Prop} [Decidable c] {a b r : α} (h : ¬ c) (h1 : b = r) : (if c then a else b) = r := (if_neg h).trans h1
def INV (V Br Cl Le R : Int32) (pos neg : Nat → Int32) (old cnt : Int32) (ring : Nat → StT) (st : Bool) (bits : Nat → Int64) (len : Int32) (bytes : Nat → Int32) (pasts typed : Int32) (s past text : Nat → Int32) : Prop := XR V Br Cl pos neg Le R s st bits ∧ (∃ ol c : Nat, old = nI ol ∧ cnt = nI c ∧ pasts = nI c ∧ SV ring ol c past) ∧ ∃ t : Nat, len = nI t ∧ typed = nI t ∧ TX bytes t text
theorem copies_c {N n B C Ln : Nat} {R : Int32} {pos neg s : Nat → Int32} (hN : 2000 ≤ N) (o : Ok n B C Ln) (m : Ms n B C Ln R pos neg s) (th : Int32) : ∃ r, F_X4_copies N (nI n) (nI B) (nI Ln) = some r ∧ F_X5_copies N s th = some (r, 0) :=
  ⟨nI (cp B Ln n), copies3_N hN o.1 (ok_512 o) o.2.2.1 o.2.2.2.2.2, by
    unfold F_X5_copies
    rw [copies5_N hN m.1 m.2.1 m.2.2.2.1 o.1 (ok_512 o) o.2.2.1 o.2.2.2.2.2]; rfl⟩
theorem exit_N {L i : Nat} (hL : L ≤ 1536) (hi : i ≤ L) (h : ¬ (nI L) - 3 < nI i) : i + 3 ≤ L := by
  rcases Nat.lt_or_ge L (i + 3) with q | q
  · exfalso
    apply h
    rw [show (3 : Int32) = nI 3 from rfl]
    rcases Nat.lt_or_ge L 3 with q3 | q3
    · exact Int32.lt_of_lt_of_le (pk_sneg (by decide) q3) (nI_pos' (by omega))
    · rw [pk_sub q3]
      exact nI_lt (by omega) (by omega)
  · exact q
set_option maxHeartbeats 4000000 in
set_option maxRecDepth 100000 in
theorem pure_loop (xs : Nat → Int32) {L : Nat} (hL : L ≤ 1536) : ∀ (n i : Nat) (V Br Cl Le R : Int32) (pos neg : Nat → Int32) (old cnt : Int32) (ring : Nat → StT) (st : Bool) (bits : Nat → Int64) (len tat terr tkind tpos tneg tplay : Int32) (bytes : Nat → Int32) (pasts mth typed mat mlet mone moth : Int32) (s past begun text : Nat → Int32) (wins : Nat → Bool) (fits : Nat → Int32) (out : Nat → Int64), i ≤ L → L < i + 3 * n → INV V Br Cl Le R pos neg old cnt ring st bits len bytes pasts typed s past text → L_L_law 2000 xs L n (nI i) V Br Cl Le R pos neg old cnt ring st bits len tat terr tkind tpos tneg tplay bytes pasts mth typed mat mlet mone moth s past begun text wins fits out = some true := by
  intro n
  induction n with
  | zero => intro i V Br Cl Le R pos neg old cnt ring st bits len tat terr tkind tpos tneg tplay bytes pasts mth typed mat mlet mone moth s past begun text wins fits out h1 h2; omega
  | succ n ih =>
    intro i V Br Cl Le R pos neg old cnt ring st bits len tat terr tkind tpos tneg tplay bytes pasts mth typed mat mlet mone moth s past begun text wins fits out hi hn inv
    have hN : 2000 ≤ 2000 := Nat.le_refl _
    rw [L_L_law]
    refine ite_c (fun _ => rfl) (fun hx => ?_)
    have hi3 := exit_N hL hi hx
    have b0 : inb (nI i) L = true := inb_nI (by omega) (by omega)
    have b1 : inb (nI i + 1) L = true := by rw [nI_1]; exact inb_nI (by omega) (by omega)
    have b2 : inb (nI i + 2) L = true := by rw [show nI i + 2 = nI (i + 2) from nI_add i 2]; exact inb_nI (by omega) (by omega)
    have go : ∀ {V Br Cl Le R : Int32} {pos neg : Nat → Int32} {old cnt : Int32} {ring : Nat → StT} {st : Bool} {bits : Nat → Int64} {len tat terr tkind tpos tneg tplay : Int32} {bytes : Nat → Int32} {pasts mth typed mat mlet mone moth : Int32} {s past begun text : Nat → Int32} {wins : Nat → Bool} {fits : Nat → Int32} {out : Nat → Int64}, INV V Br Cl Le R pos neg old cnt ring st bits len bytes pasts typed s past text → L_L_law 2000 xs L n (nI i + 3) V Br Cl Le R pos neg old cnt ring st bits len tat terr tkind tpos tneg tplay bytes pasts mth typed mat mlet mone moth s past begun text wins fits out = some true := by
      intro V Br Cl Le R pos neg old cnt ring st bits len tat terr tkind tpos tneg tplay bytes pasts mth typed mat mlet mone moth s past begun text wins fits out h
      rw [show nI i + 3 = nI (i + 3) from nI_add i 3]
      exact ih (i + 3) _ _ _ _ _ _ _ _ _ _ _ _ _ _ _ _ _ _ _ _ _ _ _ _ _ _ _ _ _ _ _ _ _ _ (by omega) (by omega) h
    clear ih
    obtain ⟨hxr, ⟨ol, c, rfl, rfl, rfl, sv⟩, ⟨t, rfl, rfl, tx⟩⟩ := inv
    have hxr' := hxr
    obtain ⟨nn, B, C, Ln, rfl, rfl, rfl, rfl, o, m, hst⟩ := hxr'
    refine gd_r b0 ?_
    refine ite_c (fun _ => ?_) (fun _ => ?_)
    · obtain ⟨r, V', B', C', L', R', ring', ol', c', st', s', past', begun', e3, e5, x, sv2⟩ := begin_c (begun := begun) hN o m sv bits st mth
      refine ob10_e e3 ?_
      refine ob6_e e5 ?_
      refine ite_p rfl (go ⟨x, ⟨_, _, rfl, rfl, rfl, sv2⟩, ⟨_, rfl, rfl, tx⟩⟩)
    refine ite_c (fun _ => ?_) (fun _ => ?_)
    · refine gd_r b1 ?_
      refine ite_c (fun h => ?_) (fun h => ?_)
      · obtain ⟨code, V', B', L', ring', ol', c', st', out', r, s', past', begun', e3, e5, ho, x, sv2⟩ := addVariable_c (begun := begun) hN o m sv bits st hst false mth out
        refine ob9_e e3 ?_
        refine gd_r b1 ?_
        refine ite_p h ?_
        refine ob6_e e5 ?_
        refine ob1_e rfl (ite_p rfl (ite_c (fun hc => ite_p ((lg_cmp_eq _ _).mpr (ho hc)) (go ⟨x, ⟨_, _, rfl, rfl, rfl, sv2⟩, ⟨_, rfl, rfl, tx⟩⟩)) (fun _ => go ⟨x, ⟨_, _, rfl, rfl, rfl, sv2⟩, ⟨_, rfl, rfl, tx⟩⟩)))
      · obtain ⟨code, V', B', L', ring', ol', c', st', out', r, s', past', begun', e3, e5, ho, x, sv2⟩ := addVariable_c (begun := begun) hN o m sv bits st hst true mth out
        refine ob9_e e3 ?_
        refine gd_r b1 ?_
        refine ite_n h ?_
        refine ob6_e e5 ?_
        refine ob1_e rfl (ite_p rfl (ite_c (fun hc => ite_p ((lg_cmp_eq _ _).mpr (ho hc)) (go ⟨x, ⟨_, _, rfl, rfl, rfl, sv2⟩, ⟨_, rfl, rfl, tx⟩⟩)) (fun _ => go ⟨x, ⟨_, _, rfl, rfl, rfl, sv2⟩, ⟨_, rfl, rfl, tx⟩⟩)))
    refine ite_c (fun _ => ?_) (fun _ => ?_)
    · refine gd_r b1 ?_; refine gd_r b2 ?_; 
      obtain ⟨code, C', pos', neg', L', ring', ol', c', st', out', r, s', past', begun', e3, e5, ho, x, sv2⟩ := addClause_c (begun := begun) hN o m sv bits st hst (xs (nI i + 1).toNatClampNeg) (xs (nI i + 2).toNatClampNeg) mth out
      refine ob10_e e3 ?_
      refine gd_r b1 ?_; refine gd_r b2 ?_; 
      refine ob6_e e5 ?_
      refine ob1_e rfl (ite_p rfl (ite_c (fun hc => ite_p ((lg_cmp_eq _ _).mpr (ho hc)) (go ⟨x, ⟨_, _, rfl, rfl, rfl, sv2⟩, ⟨_, rfl, rfl, tx⟩⟩)) (fun _ => go ⟨x, ⟨_, _, rfl, rfl, rfl, sv2⟩, ⟨_, rfl, rfl, tx⟩⟩)))
    refine ite_c (fun _ => ?_) (fun _ => ?_)
    · refine gd_r b1 ?_; 
      obtain ⟨code, C', pos', neg', L', ring', ol', c', st', out', r, s', past', begun', e3, e5, ho, x, sv2⟩ := removeClause_c (begun := begun) hN o m sv bits st hst (xs (nI i + 1).toNatClampNeg) mth out
      refine ob10_e e3 ?_
      refine gd_r b1 ?_; 
      refine ob6_e e5 ?_
      refine ob1_e rfl (ite_p rfl (ite_c (fun hc => ite_p ((lg_cmp_eq _ _).mpr (ho hc)) (go ⟨x, ⟨_, _, rfl, rfl, rfl, sv2⟩, ⟨_, rfl, rfl, tx⟩⟩)) (fun _ => go ⟨x, ⟨_, _, rfl, rfl, rfl, sv2⟩, ⟨_, rfl, rfl, tx⟩⟩)))
    refine ite_c (fun _ => ?_) (fun _ => ?_)
    · refine gd_r b1 ?_; 
      obtain ⟨code, L', ring', ol', c', out', r, s', past', begun', e3, e5, ho, x, sv2⟩ := learn_c (begun := begun) hN o m sv bits st hst (xs (nI i + 1).toNatClampNeg) mth out
      refine ob6_e e3 ?_
      refine gd_r b1 ?_; 
      refine ob6_e e5 ?_
      refine ob1_e rfl (ite_p rfl (ite_c (fun hc => ite_p ((lg_cmp_eq _ _).mpr (ho hc)) (go ⟨x, ⟨_, _, rfl, rfl, rfl, sv2⟩, ⟨_, rfl, rfl, tx⟩⟩)) (fun _ => go ⟨x, ⟨_, _, rfl, rfl, rfl, sv2⟩, ⟨_, rfl, rfl, tx⟩⟩)))
    refine ite_c (fun _ => ?_) (fun _ => ?_)
    · obtain ⟨r, L', ring', ol', c', s', past', begun', e3, e5, x, sv2⟩ := forget_c (begun := begun) hN o m sv bits st hst mth
      refine ob5_e e3 ?_
      refine ob6_e e5 ?_
      refine ite_p rfl (go ⟨x, ⟨_, _, rfl, rfl, rfl, sv2⟩, ⟨_, rfl, rfl, tx⟩⟩)
    refine ite_c (fun _ => ?_) (fun _ => ?_)
    · obtain ⟨r, L', R', ring', ol', c', bits', st', s', past', begun', w', f', e3, e5, x, sv2⟩ := round_c (begun := begun) hN o m sv bits st hst wins fits mth
      refine ob8_e e3 ?_
      refine ob8_e e5 ?_
      refine ite_p rfl (go ⟨x, ⟨_, _, rfl, rfl, rfl, sv2⟩, ⟨_, rfl, rfl, tx⟩⟩)
    refine ite_c (fun _ => ?_) (fun _ => ?_)
    · obtain ⟨r, L', R', ring', ol', c', bits', st', s', past', begun', w', f', e3, e5, x, sv2⟩ := learnAll_c (begun := begun) hN o m sv bits st hst wins fits mth
      refine ob8_e e3 ?_
      refine ob8_e e5 ?_
      refine ite_p rfl (go ⟨x, ⟨_, _, rfl, rfl, rfl, sv2⟩, ⟨_, rfl, rfl, tx⟩⟩)
    refine ite_c (fun _ => ?_) (fun _ => ?_)
    · refine gd_r b1 ?_; 
      obtain ⟨code, out', r, e3, e5, ho⟩ := isBreakers_c (N := 2000) o.1 (ok_512 o) m.1 m.2.1 (xs (nI i + 1).toNatClampNeg) mth out
      refine ob2_e e3 ?_
      refine gd_r b1 ?_; 
      refine ob2_e e5 ?_
      refine ob1_e rfl (ite_p rfl (ite_c (fun hc => ite_c (fun hr => ite_p ((lg_cmp_eq _ _).mpr (by rw [ho hc, hr]; rfl)) (go ⟨hxr, ⟨_, _, rfl, rfl, rfl, sv⟩, ⟨_, rfl, rfl, tx⟩⟩)) (fun hr => ite_p ((lg_cmp_eq _ _).mpr (by rw [ho hc, Bool.eq_false_iff.mpr hr]; rfl)) (go ⟨hxr, ⟨_, _, rfl, rfl, rfl, sv⟩, ⟨_, rfl, rfl, tx⟩⟩))) (fun _ => go ⟨hxr, ⟨_, _, rfl, rfl, rfl, sv⟩, ⟨_, rfl, rfl, tx⟩⟩)))
    refine ite_c (fun _ => ?_) (fun _ => ?_)
    · refine gd_r b1 ?_; refine gd_r b2 ?_; 
      obtain ⟨code, out', r, e3, e5, ho⟩ := clause_c (N := 2000) o.2.2.2.2.1 m.2.2.1 m.2.2.2.2.2.1 m.2.2.2.2.2.2 (xs (nI i + 1).toNatClampNeg) (xs (nI i + 2).toNatClampNeg) mth out
      refine ob2_e e3 ?_
      refine gd_r b1 ?_; refine gd_r b2 ?_; 
      refine ob2_e e5 ?_
      refine ob1_e rfl (ite_p rfl (ite_c (fun hc => ite_p ((lg_cmp_eq _ _).mpr (ho hc)) (go ⟨hxr, ⟨_, _, rfl, rfl, rfl, sv⟩, ⟨_, rfl, rfl, tx⟩⟩)) (fun _ => go ⟨hxr, ⟨_, _, rfl, rfl, rfl, sv⟩, ⟨_, rfl, rfl, tx⟩⟩)))
    refine ite_c (fun _ => ?_) (fun _ => ?_)
    · refine gd_r b1 ?_; 
      obtain ⟨code, out', r, e3, e5, ho⟩ := isTrue_c hN o.1 o.2.2.2.2.1 m.1 m.2.2.1 (ms_mF m) (xs (nI i + 1).toNatClampNeg) mth out
      refine ob2_e e3 ?_
      refine gd_r b1 ?_; 
      refine ob2_e e5 ?_
      refine ob1_e rfl (ite_p rfl (ite_c (fun hc => ite_c (fun hr => ite_p ((lg_cmp_eq _ _).mpr (by rw [ho hc, hr]; rfl)) (go ⟨hxr, ⟨_, _, rfl, rfl, rfl, sv⟩, ⟨_, rfl, rfl, tx⟩⟩)) (fun hr => ite_p ((lg_cmp_eq _ _).mpr (by rw [ho hc, Bool.eq_false_iff.mpr hr]; rfl)) (go ⟨hxr, ⟨_, _, rfl, rfl, rfl, sv⟩, ⟨_, rfl, rfl, tx⟩⟩))) (fun _ => go ⟨hxr, ⟨_, _, rfl, rfl, rfl, sv⟩, ⟨_, rfl, rfl, tx⟩⟩)))
    refine ite_c (fun _ => ?_) (fun _ => ?_)
    · refine gd_r b1 ?_; 
      obtain ⟨code, out', r, e3, e5, ho⟩ := values_c hN o m (xs (nI i + 1).toNatClampNeg) mth out
      refine ob2_e e3 ?_
      refine gd_r b1 ?_; 
      refine ob2_e e5 ?_
      refine ob1_e rfl (ite_p rfl (ite_c (fun hc => ite_p ((lg_cmp_eq _ _).mpr (ho hc)) (go ⟨hxr, ⟨_, _, rfl, rfl, rfl, sv⟩, ⟨_, rfl, rfl, tx⟩⟩)) (fun _ => go ⟨hxr, ⟨_, _, rfl, rfl, rfl, sv⟩, ⟨_, rfl, rfl, tx⟩⟩)))
    refine ite_c (fun _ => ?_) (fun _ => ?_)
    · obtain ⟨r, b', w', e3, hb, e5⟩ := winner_c hN o m bits st hst wins mth
      have hst2 : false = true ∨ BT (mC pos neg C) B nn 0 b' := .inr hb
      refine ob3_e e3 ?_
      refine ob3_e e5 ?_
      refine ite_p rfl (go ⟨⟨nn, B, C, Ln, rfl, rfl, rfl, rfl, o, m, hst2⟩, ⟨_, _, rfl, rfl, rfl, sv⟩, ⟨_, rfl, rfl, tx⟩⟩)
    refine ite_c (fun _ => ?_) (fun _ => ?_)
    · refine gd_r b1 ?_; refine gd_r b2 ?_; 
      obtain ⟨code, b', st', out', r, w', e3, hst2, e5, ho⟩ := winnerAt_c hN o m bits st hst wins (xs (nI i + 1).toNatClampNeg) (xs (nI i + 2).toNatClampNeg) mth out
      refine ob4_e e3 ?_
      refine gd_r b1 ?_; refine gd_r b2 ?_; 
      refine ob3_e e5 ?_
      refine ob1_e rfl (ite_p rfl (ite_c (fun hc => ite_p ((lg_cmp_eq _ _).mpr (ho hc)) (go ⟨⟨nn, B, C, Ln, rfl, rfl, rfl, rfl, o, m, hst2⟩, ⟨_, _, rfl, rfl, rfl, sv⟩, ⟨_, rfl, rfl, tx⟩⟩)) (fun _ => go ⟨⟨nn, B, C, Ln, rfl, rfl, rfl, rfl, o, m, hst2⟩, ⟨_, _, rfl, rfl, rfl, sv⟩, ⟨_, rfl, rfl, tx⟩⟩)))
    refine ite_c (fun _ => ?_) (fun _ => ?_)
    · refine gd_r b1 ?_; refine gd_r b2 ?_; 
      obtain ⟨code, b', st', out', r, w', e3, hst2, e5, ho⟩ := move_c hN o m bits st hst wins (xs (nI i + 1).toNatClampNeg) (xs (nI i + 2).toNatClampNeg) mth out
      refine ob4_e e3 ?_
      refine gd_r b1 ?_; refine gd_r b2 ?_; 
      refine ob3_e e5 ?_
      refine ob1_e rfl (ite_p rfl (ite_c (fun hc => ite_p ((lg_cmp_eq _ _).mpr (ho hc)) (go ⟨⟨nn, B, C, Ln, rfl, rfl, rfl, rfl, o, m, hst2⟩, ⟨_, _, rfl, rfl, rfl, sv⟩, ⟨_, rfl, rfl, tx⟩⟩)) (fun _ => go ⟨⟨nn, B, C, Ln, rfl, rfl, rfl, rfl, o, m, hst2⟩, ⟨_, _, rfl, rfl, rfl, sv⟩, ⟨_, rfl, rfl, tx⟩⟩)))
    refine ite_c (fun _ => ?_) (fun _ => ?_)
    · refine gd_r b1 ?_; 
      obtain ⟨code, out', r, e3, e5, ho⟩ := ways_c hN o m (xs (nI i + 1).toNatClampNeg) mth out
      refine ob2_e e3 ?_
      refine gd_r b1 ?_; 
      refine ob2_e e5 ?_
      refine ob1_e rfl (ite_p rfl (ite_c (fun hc => ite_p ((lg_cmp_eq _ _).mpr (ho hc)) (go ⟨hxr, ⟨_, _, rfl, rfl, rfl, sv⟩, ⟨_, rfl, rfl, tx⟩⟩)) (fun _ => go ⟨hxr, ⟨_, _, rfl, rfl, rfl, sv⟩, ⟨_, rfl, rfl, tx⟩⟩)))
    refine ite_c (fun _ => ?_) (fun _ => ?_)
    · refine gd_r b1 ?_; 
      obtain ⟨code, b', st', out', r, w', f', e3, hst2, e5, ho⟩ := beats_c hN o m bits st hst wins fits (xs (nI i + 1).toNatClampNeg) mth out
      refine ob4_e e3 ?_
      refine gd_r b1 ?_; 
      refine ob4_e e5 ?_
      refine ob1_e rfl (ite_p rfl (ite_c (fun hc => ite_c (fun hr => ite_p ((lg_cmp_eq _ _).mpr (by rw [ho hc, hr]; rfl)) (go ⟨⟨nn, B, C, Ln, rfl, rfl, rfl, rfl, o, m, hst2⟩, ⟨_, _, rfl, rfl, rfl, sv⟩, ⟨_, rfl, rfl, tx⟩⟩)) (fun hr => ite_p ((lg_cmp_eq _ _).mpr (by rw [ho hc, Bool.eq_false_iff.mpr hr]; rfl)) (go ⟨⟨nn, B, C, Ln, rfl, rfl, rfl, rfl, o, m, hst2⟩, ⟨_, _, rfl, rfl, rfl, sv⟩, ⟨_, rfl, rfl, tx⟩⟩))) (fun _ => go ⟨⟨nn, B, C, Ln, rfl, rfl, rfl, rfl, o, m, hst2⟩, ⟨_, _, rfl, rfl, rfl, sv⟩, ⟨_, rfl, rfl, tx⟩⟩)))
    refine ite_c (fun _ => ?_) (fun _ => ?_)
    · refine gd_r b1 ?_; refine gd_r b2 ?_; 
      obtain ⟨code, b', st', out', r, w', f', e3, hst2, e5, ho⟩ := answer_c hN o m bits st hst wins fits (xs (nI i + 1).toNatClampNeg) (xs (nI i + 2).toNatClampNeg) mth out
      refine ob4_e e3 ?_
      refine gd_r b1 ?_; refine gd_r b2 ?_; 
      refine ob4_e e5 ?_
      refine ob1_e rfl (ite_p rfl (ite_c (fun hc => ite_p ((lg_cmp_eq _ _).mpr (ho hc)) (go ⟨⟨nn, B, C, Ln, rfl, rfl, rfl, rfl, o, m, hst2⟩, ⟨_, _, rfl, rfl, rfl, sv⟩, ⟨_, rfl, rfl, tx⟩⟩)) (fun _ => go ⟨⟨nn, B, C, Ln, rfl, rfl, rfl, rfl, o, m, hst2⟩, ⟨_, _, rfl, rfl, rfl, sv⟩, ⟨_, rfl, rfl, tx⟩⟩)))
    refine ite_c (fun _ => ?_) (fun _ => ?_)
    · obtain ⟨r, e3, e5⟩ := copies_c hN o m mth
      refine ob1_e e3 ?_
      refine ob2_e e5 ?_
      refine ite_p rfl (go ⟨hxr, ⟨_, _, rfl, rfl, rfl, sv⟩, ⟨_, rfl, rfl, tx⟩⟩)
    refine ite_c (fun _ => ?_) (fun _ => ?_)
    · obtain ⟨r, b', w', f', e3, hb, e5⟩ := leastProof_c hN o m bits st hst wins fits mth
      have hst2 : false = true ∨ BT (mC pos neg C) B nn 0 b' := .inr hb
      refine ob3_e e3 ?_
      refine ob4_e e5 ?_
      refine ite_p rfl (go ⟨⟨nn, B, C, Ln, rfl, rfl, rfl, rfl, o, m, hst2⟩, ⟨_, _, rfl, rfl, rfl, sv⟩, ⟨_, rfl, rfl, tx⟩⟩)
    refine ite_c (fun _ => ?_) (fun _ => ?_)
    · obtain ⟨r, b', w', f', e3, hb, e5⟩ := proof_c hN o m bits st hst wins fits mth
      have hst2 : false = true ∨ BT (mC pos neg C) B nn 0 b' := .inr hb
      refine ob3_e e3 ?_
      refine ob4_e e5 ?_
      refine ite_p rfl (go ⟨⟨nn, B, C, Ln, rfl, rfl, rfl, rfl, o, m, hst2⟩, ⟨_, _, rfl, rfl, rfl, sv⟩, ⟨_, rfl, rfl, tx⟩⟩)
    refine ite_c (fun _ => ?_) (fun _ => ?_)
    · obtain ⟨r, e3, e5⟩ := hope_c hN o m mth
      refine ob1_e e3 ?_
      refine ob2_e e5 ?_
      refine ite_c (fun _ => go ⟨hxr, ⟨_, _, rfl, rfl, rfl, sv⟩, ⟨_, rfl, rfl, tx⟩⟩) (fun h => ite_n h (ite_n h (go ⟨hxr, ⟨_, _, rfl, rfl, rfl, sv⟩, ⟨_, rfl, rfl, tx⟩⟩)))
    refine ite_c (fun _ => ?_) (fun _ => ?_)
    · refine gd_r b1 ?_; 
      obtain ⟨code, bytes', t', out', r, text', e3, e5, ho, tx2⟩ := append_c (N := 2000) tx (xs (nI i + 1).toNatClampNeg) mth out
      refine ob4_e e3 ?_
      refine gd_r b1 ?_; 
      refine ob4_e e5 ?_
      refine ob1_e rfl (ite_p rfl (ite_c (fun hc => ite_p ((lg_cmp_eq _ _).mpr (ho hc)) (go ⟨hxr, ⟨_, _, rfl, rfl, rfl, sv⟩, ⟨_, rfl, rfl, tx2⟩⟩)) (fun _ => go ⟨hxr, ⟨_, _, rfl, rfl, rfl, sv⟩, ⟨_, rfl, rfl, tx2⟩⟩)))
    refine ite_c (fun _ => ?_) (fun _ => ?_)
    · have tx2 : TX bytes 0 text := ⟨Nat.zero_le _, fun i h => absurd h (Nat.not_lt_zero _)⟩
      refine ob2_e rfl ?_
      refine ob3_e rfl ?_
      refine ite_p rfl (go ⟨hxr, ⟨_, _, rfl, rfl, rfl, sv⟩, ⟨0, rfl, rfl, tx2⟩⟩)
    refine ite_c (fun _ => ?_) (fun _ => ?_)
    · obtain ⟨r, V', B', C', pos', neg', L', R', ring', ol', c', bits', st', at', err', kd', P', Q', p', s', past', begun', a5, l, o1, o2, w', f', e3, e5, x, sv2⟩ := carryOut_c (begun := begun) hN o m sv tx bits st hst wins fits mth tat terr tkind tpos tneg tplay mat mlet mone moth
      refine ob19_e e3 ?_
      refine ob12_e e5 ?_
      refine ite_p rfl (go ⟨x, ⟨_, _, rfl, rfl, rfl, sv2⟩, ⟨_, rfl, rfl, tx⟩⟩)
    refine ite_c (fun _ => ?_) (fun _ => ?_)
    · obtain ⟨code, V', B', C', pos', neg', L', R', c', st', out', r, s', e3, e5, ho, x, sv2⟩ := undo_c hN o m sv bits st hst mth out
      refine ob11_e e3 ?_
      refine ob4_e e5 ?_
      refine ob1_e rfl (ite_p rfl (ite_c (fun hc => ite_p ((lg_cmp_eq _ _).mpr (ho hc)) (go ⟨x, ⟨_, _, rfl, rfl, rfl, sv2⟩, ⟨_, rfl, rfl, tx⟩⟩)) (fun _ => go ⟨x, ⟨_, _, rfl, rfl, rfl, sv2⟩, ⟨_, rfl, rfl, tx⟩⟩)))
    refine ite_c (fun _ => ?_) (fun _ => ?_)
    · obtain ⟨r, b', w', f', e3, e5, hb⟩ := digest_c (c := c) (t := t) hN o m bits st hst wins fits mth
      have hst2 : false = true ∨ BT (mC pos neg C) B nn 0 b' := .inr hb
      refine ob3_e e3 ?_
      refine ob4_e e5 ?_
      refine ite_p ((lg_cmp_eq _ _).mpr rfl) (go ⟨⟨nn, B, C, Ln, rfl, rfl, rfl, rfl, o, m, hst2⟩, ⟨_, _, rfl, rfl, rfl, sv⟩, ⟨_, rfl, rfl, tx⟩⟩)
    exact go ⟨hxr, ⟨_, _, rfl, rfl, rfl, sv⟩, ⟨_, rfl, rfl, tx⟩⟩
theorem zI_0 (i : Nat) : zI i = nI 0 := rfl
theorem pure_law (xs : Nat → Int32) (L : Nat) (hL : L ≤ 1536) : F_L_law 2000 xs L = some true := by
  unfold F_L_law
  refine pure_loop xs hL 2000 0 _ _ _ _ _ _ _ _ _ _ _ _ _ _ _ _ _ _ _ _ _ _ _ _ _ _ _ _ _ _ _ _ _ _ (Nat.zero_le _) (by omega) ⟨⟨0, 0, 0, 0, rfl, rfl, rfl, rfl, ⟨by decide, by decide, by decide, by decide, by decide, pw_pos _⟩, ⟨rfl, rfl, rfl, rfl, rfl, fun k hk => absurd hk (Nat.not_lt_zero _), fun k hk => absurd hk (Nat.not_lt_zero _)⟩, .inl rfl⟩, ⟨0, 0, rfl, rfl, rfl, Nat.zero_le _, by decide, fun j hj => absurd hj (Nat.not_lt_zero _)⟩, ⟨0, rfl, rfl, Nat.zero_le _, fun i hi => absurd hi (Nat.not_lt_zero _)⟩⟩
