/-! THE CLASS'S CODER: an operand is behind; a node is left -/
def kBk (cap base D : Nat) (k v : Int32) (i : Nat) (s : KS) : KS :=
  if k = 12 ∧ i = 0 then kRise (-1) (kEmit cap 12 0 s)
  else if k = 14 ∧ i = 0 then kRise (-1) (kEmit cap 13 (ks_so s v.toNatClampNeg) (kUse v.toNatClampNeg s))
  else if k = 13 ∧ i = 0 then kSetBe D (ks_h (kRise (-1) (kSetHo D (nI (ks_us s)) (kEmit cap 14 0 s)))) (kRise (-1) (kSetHo D (nI (ks_us s)) (kEmit cap 14 0 s)))
  else if k = 13 ∧ i = 1 then
    (if ks_ae s D = 0 then kSetH (ks_be s D) (kFill cap base (ks_ho s D) (kSetHo D (nI (ks_us s)) (kEmit cap 15 0 s))) else kSetH (ks_be s D) (kFill cap base (ks_ho s D) s))
  else s
def kRet (cap D : Nat) (s : KS) : KS := if ks_ae s D = 0 then s else kEmit cap 17 0 s
def kCall (cap D : Nat) (tl : Bool) (own P : Nat) (v : Int32) (s : KS) : KS :=
  if ks_ae s D = 0 ∨ tl = false then kRet cap D (kRise 1 (kEmit cap 16 v (kRise (-(nI P)) s)))
  else if v = nI own then kEmit cap 18 0 (kRise (-(nI P)) s) else kEmit cap 19 v (kRise (-(nI P)) s)
def kLv (cap base D : Nat) (tl : Bool) (own : Nat) (par : Int32 → Nat) (k v : Int32) (s : KS) : KS :=
  if k = 12 ∨ k = 14 then s
  else if k = 13 then (if ks_ae s D = 0 then kFill cap base (ks_ho s D) s else s)
  else if k = 15 then kCall cap D tl own (par v) v s
  else if k = 1 then kRet cap D (kRise 1 (kEmit cap 1 v s))
  else if k = 2 then kRet cap D (kRise 1 (kEmit cap 2 (ks_so s v.toNatClampNeg) (kUse v.toNatClampNeg s)))
  else kRet cap D (kRise (1 - nI (k_ar par k 0)) (kEmit cap k 0 s))
theorem kE_ae {cap : Nat} {k n : Int32} {s : KS} : (kEmit cap k n s).2.2.2 = s.2.2.2 := by
  unfold kEmit
  split <;> rfl
section CL
variable {cx : gCx} {d : Nat} {ad : Nat → Nat} {t0 t : gSt} {post : Option Value → gSt → Prop} {p : Nat} {s : KS} {k v : Int32}
theorem QK.rf (h : QK t0 ad p s t) : t.2.1 (ad 74) = ks_ae s ∧ t.2.1 (ad 76) = ks_ho s ∧ t.2.1 (ad 77) = ks_be s ∧ t.2.1 (ad 67) 10 = ks_h s := ⟨h.2.2.2.2.1.1, h.2.2.2.2.1.2.2.1, h.2.2.2.2.1.2.2.2.1, h.2.2.2.1.1⟩
theorem kh_r {u : gSt} (hF : gFr ad (khP p) t u) (hr : t.2.2.2 (ad 67) 6 = some (ad p)) (hp : isP p) : u.2.2.2 (ad 67) 6 = some (ad p) := by
  have := hp.ge
  rw [hF.r 67 6 (khP_r (by omega))]; exact hr
theorem m_kbehind {D i f base : Nat} (hp : isP p) (hr : t.2.2.2 (ad 67) 6 = some (ad p)) (hf : f < 24) (h8 : t.2.1 (ad 67) 8 = nI f) (hb : t.2.1 (ad (p + 7)) f = nI base) (hD : D < 500) (hi : i < 1000) (ek : t.2.1 (ad 70) D = k) (ev : t.2.1 (ad 71) D = v) (hv : vK k v) (hQ : QK t0 ad p s t) (h : ∀ u, QK t0 ad p (kBk (c_len (p + 14)) base D k v i s) u → gFr ad (khP p) t u → post none u) : g_E cx (d + 2) i_Coder_behindKid [.ref (ad 67), .int (nI D), .int (nI i)] t post := by
  have hL := hQ.1.L
  have hpg := hp.ge
  have hpl := hp.lt
  have hcap := capL hp
  have hvp := vp_in_nI (N := 500) hD (by omega)
  have i0 : nI i = 0 ↔ i = 0 := by rw [show (0 : Int32) = nI 0 from rfl, nI_eq (by omega) (by omega)]
  have i1 : nI i = 1 ↔ i = 1 := by rw [show (1 : Int32) = nI 1 from rfl, nI_eq (by omega) (by omega)]
  have done : ∀ {u : gSt} {o4 : Option Value}, QK t0 ad p (kBk (c_len (p + 14)) base D k v i s) u → gFr ad (khP p) t u → g_W cx (g_E cx (d + 1)) mt_Coder_behindKid post (172, [some (.ref (ad 67)), some (.int (nI D)), some (.int (nI i)), some (.int k), o4], [], u, 0, 0) := fun hu hF => x_Coder_behindKid_172 hF.L (h _ hu hF)
  have none' : ¬ (k = 12 ∧ i = 0) → ¬ (k = 14 ∧ i = 0) → ¬ (k = 13 ∧ i = 0) → ¬ (k = 13 ∧ i = 1) → kBk (c_len (p + 14)) base D k v i s = s := fun h1 h2 h3 h4 => by
    unfold kBk
    rw [if_neg h1, if_neg h2, if_neg h3, if_neg h4]
  -- a hole that is filled, and the height of before
  have last : ∀ (u : gSt) (s1 : KS), k = 13 ∧ i = 1 → QK t0 ad p s1 u → gFr ad (khP p) t u → ks_be s1 = ks_be s → kBk (c_len (p + 14)) base D k v i s = kSetH (ks_be s D) (kFill (c_len (p + 14)) base (ks_ho s D) s1) → g_W cx (g_E cx (d + 1)) mt_Coder_behindKid post (156, [some (.ref (ad 67)), some (.int (nI D)), some (.int (nI i)), some (.int k), some (.int (ks_ho s D))], [], u, 0, 0) := by
    intro u s1 _ hu hF hbe e
    refine x_Coder_behindKid_156 hF.L ?_
    refine m_kfill (f := f) (base := base) hp (kh_r hF hr hp) hf (by rw [hF.i 67 8 (khP_r (by omega))]; exact h8) (by rw [hF.i _ _ (khP_r (by omega)) (by omega)]; exact hb) (hQ.2.2.2.2.2 D) hu (fun u2 q2 F2 => ⟨rfl, F2.L, hvp, fun t3 e3 => ?_⟩)
    rw [nI_clamp (by omega), q2.rf.2.2.1] at e3
    have ebe : ks_be (kFill (c_len (p + 15)) base (ks_ho s D) s1) = ks_be s := by
      rw [← hbe]
      unfold kFill
      split <;> rfl
    rw [ebe] at e3
    have q3 : QK t0 ad p (kSetH (ks_be s D) (kFill (c_len (p + 15)) base (ks_ho s D) s1)) t3 := by
      rw [e3]
      exact q2.f67 (by decide) ⟨rfl, rfl⟩ ⟨q2.2.2.1.2, q2.2.2.1.1⟩ ⟨by rw [if_pos rfl]; rfl, q2.2.2.2.1.2.1, q2.2.2.2.1.2.2⟩ ⟨rfl, rfl, rfl, rfl, rfl⟩ hp
    refine done ?_ ((hF.tr F2).tr (by rw [e3]; exact (gFr.rf F2.L).si (khP_t (by omega))))
    rw [e, ← hcap.2]
    exact q3
  have a115 : ¬ (k = 12 ∧ i = 0) → ¬ (k = 14 ∧ i = 0) → ¬ (k = 13 ∧ i = 0) → g_W cx (g_E cx (d + 1)) mt_Coder_behindKid post (115, [some (.ref (ad 67)), some (.int (nI D)), some (.int (nI i)), some (.int k), none], [], t, 0, 0) := by
    intro h1 h2 h3
    refine x_Coder_behindKid_115 hL ⟨fun c => done (by rw [none' h1 h2 h3 (fun z => c z.1)]; exact hQ) (gFr.rf hL), fun c => ⟨fun c2 => done (by rw [none' h1 h2 h3 (fun z => c2 (i1.mpr z.2))]; exact hQ) (gFr.rf hL), fun c2 => ?_⟩⟩
    have h4 : k = 13 ∧ i = 1 := ⟨Classical.not_not.mp c, i1.mp (Classical.not_not.mp c2)⟩
    refine ⟨hvp, fun x1 e1 => ⟨hvp, ?_⟩⟩
    rw [nI_clamp (by omega), hQ.rf.2.1] at e1
    subst e1
    rw [nI_clamp (by omega), hQ.rf.1]
    refine ⟨fun c3 => last t s h4 hQ (gFr.rf hL) rfl ?_, fun c3 => ?_⟩
    · unfold kBk
      rw [if_neg h1, if_neg h2, if_neg h3, if_pos h4, if_neg c3]
    · refine m_kemit hp hr hQ (fun u q F => ⟨_, rfl, F.L, hvp, fun t4 e4 => ?_⟩)
      obtain ⟨q2, F2⟩ := q.rw hp (c := 76) (j := D) (x := nI (ks_us s)) (s' := kSetHo D (nI (ks_us s)) (kEmit (c_len (p + 14)) 15 0 s)) (by decide) rfl rfl rfl rfl rfl rfl (fun _ => nI_pos (by have := hQ.2.2.1.2; omega))
      rw [← e4] at q2 F2
      refine last t4 _ h4 q2 (F.tr F2) (by show (kEmit (c_len (p + 14)) 15 0 s).2.2.2.2.2.2.2.2.2.1 = _; rw [kE_ae]) ?_
      unfold kBk
      rw [if_neg h1, if_neg h2, if_neg h3, if_pos h4, if_pos (Classical.not_not.mp c3)]
  have a74 : ¬ (k = 12 ∧ i = 0) → ¬ (k = 14 ∧ i = 0) → g_W cx (g_E cx (d + 1)) mt_Coder_behindKid post (74, [some (.ref (ad 67)), some (.int (nI D)), some (.int (nI i)), some (.int k), none], [], t, 0, 0) := by
    intro h1 h2
    refine x_Coder_behindKid_74 hL ⟨fun c => a115 h1 h2 (fun z => c z.1), fun c => ⟨fun c2 => a115 h1 h2 (fun z => c2 (i0.mpr z.2)), fun c2 => ?_⟩⟩
    have h3 : k = 13 ∧ i = 0 := ⟨Classical.not_not.mp c, i0.mp (Classical.not_not.mp c2)⟩
    refine m_kemit hp hr hQ (fun u q F => ⟨_, rfl, F.L, hvp, fun t3 e3 => ?_⟩)
    rw [nI_clamp (by omega)] at e3
    obtain ⟨q2, F2⟩ := q.rw hp (c := 76) (j := D) (x := nI (ks_us s)) (s' := kSetHo D (nI (ks_us s)) (kEmit (c_len (p + 14)) 14 0 s)) (by decide) rfl rfl rfl rfl rfl rfl (fun _ => nI_pos (by have := hQ.2.2.1.2; omega))
    rw [← e3] at q2 F2
    refine m_krise hp q2 (fun u3 q3 F3 => ⟨rfl, F3.L, hvp, fun t6 e6 => ?_⟩)
    have ee : kBk (c_len (p + 14)) base D k v i s = kSetBe D (ks_h (kRise (-1) (kSetHo D (nI (ks_us s)) (kEmit (c_len (p + 14)) 14 0 s)))) (kRise (-1) (kSetHo D (nI (ks_us s)) (kEmit (c_len (p + 14)) 14 0 s))) := by
      unfold kBk
      rw [if_neg h1, if_neg h2, if_pos h3]
    obtain ⟨s3, es3⟩ : ∃ s3, kRise (-1) (kSetHo D (nI (ks_us s)) (kEmit (c_len (p + 14)) 14 0 s)) = s3 := ⟨_, rfl⟩
    rw [es3] at q3 ee
    rw [nI_clamp (by omega), q3.rf.2.2.2] at e6
    obtain ⟨q4, F4⟩ := q3.rw hp (c := 77) (j := D) (x := ks_h s3) (s' := kSetBe D (ks_h s3) s3) (by decide) rfl rfl rfl rfl rfl rfl (fun z => absurd z (by decide))
    rw [← e6] at q4 F4
    refine done ?_ (((F.tr F2).tr F3).tr F4)
    rw [ee]
    exact q4
  have a36 : ¬ (k = 12 ∧ i = 0) → g_W cx (g_E cx (d + 1)) mt_Coder_behindKid post (36, [some (.ref (ad 67)), some (.int (nI D)), some (.int (nI i)), some (.int k), none], [], t, 0, 0) := by
    intro h1
    refine x_Coder_behindKid_36 hL ⟨fun c => a74 h1 (fun z => c z.1), fun c => ⟨fun c2 => a74 h1 (fun z => c2 (i0.mpr z.2)), fun c2 => ?_⟩⟩
    have h2 : k = 14 ∧ i = 0 := ⟨Classical.not_not.mp c, i0.mp (Classical.not_not.mp c2)⟩
    obtain ⟨j, ej, hj⟩ := hv (Or.inr h2.1)
    rw [nI_clamp (by omega), ev, ej]
    refine ⟨hvp, m_kuse hp hj hQ (fun u q F => ⟨_, rfl, F.L, ?_⟩)⟩
    refine m_kemit hp (kh_r F hr hp) q (fun u2 q2 F2 => ⟨_, rfl, F2.L, ?_⟩)
    refine m_krise hp q2 (fun u3 q3 F3 => ⟨rfl, F3.L, done ?_ ((F.tr F2).tr F3)⟩)
    unfold kBk
    rw [if_neg h1, if_pos h2, ej, nI_clamp (by omega)]
    exact q3
  refine x_Coder_behindKid hL ⟨hvp, fun x1 e1 => ?_⟩
  rw [nI_clamp (by omega), ek] at e1
  subst e1
  refine ⟨fun c => a36 (fun z => c z.1), fun c => ⟨fun c2 => a36 (fun z => c2 (i0.mpr z.2)), fun c2 => ?_⟩⟩
  have h1 : x1 = 12 ∧ i = 0 := ⟨Classical.not_not.mp c, i0.mp (Classical.not_not.mp c2)⟩
  refine m_kemit hp hr hQ (fun u q F => ⟨_, rfl, F.L, ?_⟩)
  refine m_krise hp q (fun u3 q3 F3 => ⟨rfl, F3.L, done ?_ (F.tr F3)⟩)
  unfold kBk
  rw [if_pos h1]
  exact q3
theorem m_kcall {D f P : Nat} {tl : Bool} {g : Nat} (hp : isP p) (hr : t.2.2.2 (ad 67) 6 = some (ad p)) (hf : f < 24) (h8 : t.2.1 (ad 67) 8 = nI f) (h7 : t.2.1 (ad 67) 7 = b32 tl) (hg : g < 24) (hP : t.2.1 (ad (p + 2)) g = nI P) (hQ : QK t0 ad p s t) (h : ∀ u, QK t0 ad p (kCall (c_len (p + 14)) D tl f P (nI g) s) u → gFr ad (khP p) t u → post none u) : g_E cx (d + 2) i_Coder_encodeCall [.ref (ad 67), .int (nI g), .int (ks_ae s D)] t post := by
  have hL := hQ.1.L
  have hpg := hp.ge
  have hpl := hp.lt
  refine x_Coder_encodeCall hp hL hr ⟨vp_in_nI hg (by omega), ?_⟩
  rw [nI_clamp (by omega), hP]
  refine m_krise hp hQ (fun u1 q1 F1 => ⟨rfl, F1.L, ?_⟩)
  have r1 := kh_r F1 hr hp
  have k7 : u1.2.1 (ad 67) 7 = b32 tl := by rw [F1.i 67 7 (khP_r (by omega))]; exact h7
  have k8 : u1.2.1 (ad 67) 8 = nI f := by rw [F1.i 67 8 (khP_r (by omega))]; exact h8
  rw [k7, k8]
  -- a call that comes back
  have back : ks_ae s D = 0 ∨ tl = false → g_E cx (d + 1) i_Coder_emit [.ref (ad 67), .int 16, .int (nI g)] u1 (fun r u3 => ∃ y4 : Int32, r = some (.int y4) ∧ Lay u3 ad ∧ (g_E cx (d + 1) i_Coder_rise [.ref (ad 67), .int 1] u3 (fun r u5 => r = none ∧ Lay u5 ad ∧ ((ks_ae s D = 0 → post none u5) ∧ (¬ (ks_ae s D = 0) → g_E cx (d + 1) i_Coder_emit [.ref (ad 67), .int 17, .int 0] u5 (fun r u7 => ∃ y8 : Int32, r = some (.int y8) ∧ Lay u7 ad ∧ (post none u7))))))) := by
    intro hc
    refine m_kemit hp r1 q1 (fun u3 q3 F3 => ⟨_, rfl, F3.L, ?_⟩)
    refine m_krise hp q3 (fun u5 q5 F5 => ⟨rfl, F5.L, ?_⟩)
    have hk : kCall (c_len (p + 14)) D tl f P (nI g) s = kRet (c_len (p + 14)) D (kRise 1 (kEmit (c_len (p + 14)) 16 (nI g) (kRise (-(nI P)) s))) := by
      unfold kCall
      rw [if_pos hc]
    have hae : ks_ae (kRise 1 (kEmit (c_len (p + 14)) 16 (nI g) (kRise (-(nI P)) s))) D = ks_ae s D := by
      show (kEmit (c_len (p + 14)) 16 (nI g) (kRise (-(nI P)) s)).2.2.2.2.2.2.1 D = _
      rw [kE_ae]
      rfl
    rw [hk] at h
    unfold kRet at h
    rw [hae] at h
    refine ⟨fun c => h u5 (by rw [if_pos c]; exact q5) ((F1.tr F3).tr F5), fun c => ?_⟩
    refine m_kemit hp (kh_r ((F1.tr F3).tr F5) hr hp) q5 (fun u7 q7 F7 => ⟨_, rfl, F7.L, h u7 (by rw [if_neg c]; exact q7) (((F1.tr F3).tr F5).tr F7)⟩)
  refine ⟨fun c => back (Or.inl c), fun c => ⟨fun c2 => ?_, fun c2 => ?_⟩⟩
  · have ht : ¬ (ks_ae s D = 0 ∨ tl = false) := fun z => z.elim c (fun z => c2 (b32_0.mpr z))
    refine ⟨fun c3 => ?_, fun c3 => ?_⟩
    · refine m_kemit hp r1 q1 (fun u3 q3 F3 => ⟨_, rfl, F3.L, h u3 ?_ (F1.tr F3)⟩)
      unfold kCall
      rw [if_neg ht, if_neg c3]
      exact q3
    · refine m_kemit hp r1 q1 (fun u3 q3 F3 => ⟨_, rfl, F3.L, h u3 ?_ (F1.tr F3)⟩)
      unfold kCall
      rw [if_neg ht, if_pos (Classical.not_not.mp c3)]
      exact q3
  · exact back (Or.inr (b32_0.mp (Classical.not_not.mp c2)))
theorem m_kleave {D f base n : Nat} {tl : Bool} {par : Int32 → Nat} (hp : isP p) (hr : t.2.2.2 (ad 67) 6 = some (ad p)) (hf : f < 24) (h8 : t.2.1 (ad 67) 8 = nI f) (h7 : t.2.1 (ad 67) 7 = b32 tl) (hb : t.2.1 (ad (p + 7)) f = nI base) (hR : RPar t ad p n par) (hD : D < 500) (ek : t.2.1 (ad 70) D = k) (ev : t.2.1 (ad 71) D = v) (hk : ∃ j, 1 ≤ j ∧ j ≤ 15 ∧ k = nI j) (hg : k = 15 → ∃ g, v = nI g ∧ g < n) (hv : vK k v) (hQ : QK t0 ad p s t) (h : ∀ u, QK t0 ad p (kLv (c_len (p + 14)) base D tl f par k v s) u → gFr ad (khP p) t u → post none u) : g_E cx (d + 3) i_Coder_leave [.ref (ad 67), .int (nI D)] t post := by
  have hL := hQ.1.L
  have hpg := hp.ge
  have hpl := hp.lt
  have hcap := capL hp
  have hvp := vp_in_nI (N := 500) hD (by omega)
  -- the RETURN of an end
  have ret : ∀ (u : gSt) (s1 : KS), QK t0 ad p s1 u → gFr ad (khP p) t u → kLv (c_len (p + 14)) base D tl f par k v s = kRet (c_len (p + 14)) D s1 → ks_ae s1 = ks_ae s → ((u.2.1 (ad 74) (nI D).toNatClampNeg = 0 → post none u) ∧ (¬ (u.2.1 (ad 74) (nI D).toNatClampNeg = 0) → g_E cx (d + 2) i_Coder_emit [.ref (ad 67), .int 17, .int 0] u (fun r u7 => ∃ y8 : Int32, r = some (.int y8) ∧ Lay u7 ad ∧ (post none u7)))) := by
    intro u s1 q F e hae
    rw [nI_clamp (by omega), q.rf.1]
    rw [e] at h
    unfold kRet at h
    refine ⟨fun c => h u (by rw [if_pos c]; exact q) F, fun c => ?_⟩
    exact m_kemit hp (kh_r F hr hp) q (fun u7 q7 F7 => ⟨_, rfl, F7.L, h u7 (by rw [if_neg c]; exact q7) (F.tr F7)⟩)
  refine x_Coder_leave hL ⟨hvp, fun x1 e1 => ?_⟩
  rw [nI_clamp (by omega), ek] at e1
  subst e1
  refine ⟨fun c => ?_, fun c => ?_, fun c => ?_, fun c => ?_, fun c => ?_, fun c => ?_⟩
  · refine x_Coder_leave_125 hL ⟨hvp, ?_⟩
    rw [nI_clamp (by omega), ev]
    refine m_kemit hp hr hQ (fun u q F => ⟨_, rfl, F.L, ?_⟩)
    refine m_krise hp q (fun u2 q2 F2 => ⟨rfl, F2.L, hvp, ?_⟩)
    have := ret u2 _ q2 (F.tr F2) (by subst c; rfl) (by show (kEmit (c_len (p + 14)) 1 v s).2.2.2.2.2.2.1 = _; rw [kE_ae])
    rw [nI_clamp (by omega)] at this
    exact this
  · obtain ⟨j, ej, hj⟩ := hv (Or.inl c)
    refine x_Coder_leave_148 hL ⟨hvp, ?_⟩
    rw [nI_clamp (by omega), ev, ej]
    refine m_kuse hp hj hQ (fun u q F => ⟨_, rfl, F.L, ?_⟩)
    refine m_kemit hp (kh_r F hr hp) q (fun u2 q2 F2 => ⟨_, rfl, F2.L, ?_⟩)
    refine m_krise hp q2 (fun u3 q3 F3 => ⟨rfl, F3.L, hvp, ?_⟩)
    have := ret u3 _ q3 ((F.tr F2).tr F3) (by
      subst c
      rw [ej]
      show kRet _ _ (kRise 1 (kEmit _ 2 (ks_so s (nI j).toNatClampNeg) (kUse (nI j).toNatClampNeg s))) = _
      rw [nI_clamp (by omega)]) (by show (kEmit (c_len (p + 14)) 2 (ks_so s j) (kUse j s)).2.2.2.2.2.2.1 = _; rw [kE_ae]; rfl)
    rw [nI_clamp (by omega)] at this
    exact this
  · refine x_Coder_leave_84 hL (h t ?_ (gFr.rf hL))
    rw [show kLv (c_len (p + 14)) base D tl f par x1 v s = s from if_pos c]
    exact hQ
  · subst c
    refine x_Coder_leave_85 hL ⟨hvp, ?_⟩
    rw [nI_clamp (by omega), hQ.rf.1, hQ.rf.2.1]
    refine ⟨fun c => h t ?_ (gFr.rf hL), fun c => ⟨hvp, ?_⟩⟩
    · rw [show kLv (c_len (p + 14)) base D tl f par 13 v s = (if ks_ae s D = 0 then kFill (c_len (p + 14)) base (ks_ho s D) s else s) from rfl, if_neg c]
      exact hQ
    · refine m_kfill (f := f) (base := base) hp hr hf h8 hb (hQ.2.2.2.2.2 D) hQ (fun u q F => ⟨rfl, F.L, h u ?_ F⟩)
      rw [show kLv (c_len (p + 14)) base D tl f par 13 v s = (if ks_ae s D = 0 then kFill (c_len (p + 14)) base (ks_ho s D) s else s) from rfl, if_pos (Classical.not_not.mp c), ← hcap.2]
      exact q
  · obtain ⟨g, eg, hgn⟩ := hg c
    subst c
    refine x_Coder_leave_105 hL ⟨hvp, hvp, ?_⟩
    rw [nI_clamp (by omega), ev, hQ.rf.1, eg]
    refine m_kcall (P := par (nI g)) (tl := tl) (f := f) hp hr hf h8 h7 (by have := hR.1; omega) (hR.2.2 g hgn) hQ (fun u q F => ⟨rfl, F.L, h u ?_ F⟩)
    rw [eg]
    exact q
  · have hne : ∀ z : Int32, (z = 12 ∨ z = 14 ∨ z = 13 ∨ z = 15 ∨ z = 1 ∨ z = 2) → ¬ x1 = z := by
      rintro z hz rfl
      rcases hz with rfl | rfl | rfl | rfl | rfl | rfl <;> exact absurd c (by decide)
    have e6 : kLv (c_len (p + 14)) base D tl f par x1 v s = kRet (c_len (p + 14)) D (kRise (1 - nI (k_ar par x1 0)) (kEmit (c_len (p + 14)) x1 0 s)) := by
      unfold kLv
      rw [if_neg (fun z => z.elim (hne 12 (by simp)) (hne 14 (by simp))), if_neg (hne 13 (by simp)), if_neg (hne 15 (by simp)), if_neg (hne 1 (by simp)), if_neg (hne 2 (by simp))]
    refine x_Coder_leave_175 hp hL ?_
    refine m_kemit hp hr hQ (fun u q F => ⟨_, rfl, F.L, kh_r F hr hp, ?_⟩)
    have Ru : RPar u ad p n par := ⟨hR.1, by rw [F.i _ _ (khP_r (by omega)) (by omega)]; exact hR.2.1, fun g hg => by rw [F.i _ _ (khP_r (by omega)) (by omega)]; exact hR.2.2 g hg⟩
    refine m_kids hp F.L Ru hk (fun z => absurd z (hne 15 (by simp))) ⟨_, rfl, F.L, ?_⟩
    refine m_krise hp q (fun u2 q2 F2 => ⟨rfl, F2.L, hvp, ?_⟩)
    exact ret u2 _ q2 (F.tr F2) e6 (by show (kEmit (c_len (p + 14)) x1 0 s).2.2.2.2.2.2.1 = _; rw [kE_ae])
end CL
