/-! THE CLASS READS AN EXPRESSION: what a method does, beside the model -/
def VK (V : Fo) (K : AT) (a lev cn : Nat) : Prop := (fo_n V ≤ a ∧ 2 * fo_l V ≤ a) ∧ (∀ q ∈ fo_p V, q.1 = 15 → q.2.toNatClampNeg < cn) ∧ K.length ≤ 5 * a + lev
def BD (n Pm st c0 a l o : Nat) (sc : SC) (cl : CL) (N : Nat) : Prop := (a ≤ n ∧ l ≤ 40 ∧ o ≤ 30 ∧ sc.length ≤ Pm + o ∧ Pm ≤ 6 ∧ 91 * cl.length ≤ 30 * a + 31 * o ∧ st + N ≤ a ∧ c0 ≤ cl.length) ∧ (∀ q ∈ sc, nm_ok q.1 ∧ q.2 < 50) ∧ clOk cl a
/-- trees were read from t to u -/
def LV (ad : Nat → Nat) (T : Nat → Nat) (n p Pm x st e a l o : Nat) (sc : SC) (cl : CL) (ac : Nat → Nat) (N : Nat) (t : gSt) (a' l' : Nat) (cl' : CL) (ac' : Nat → Nat) (F : Fo) (u : gSt) : Prop :=
  gFr ad (crxP p) t u ∧ PG Pm x o e a l sc cl ac a' l' cl' ac' F ∧ CR ad T n p Pm st l' o sc cl'.length (N + fo_n F) u ∧ cuC ad T n a' u ∧ a' ≤ n ∧ bel ad p (st + min N 400) t u ∧ (N + fo_n F ≤ 400 → rowC ad p (st + N) (fo_p F) u) ∧ belC ad cl.length t u ∧ callC ad cl.length cl' ac' u
section CE
variable (cx : gCx) (dm : Nat) (ad : Nat → Nat) (T : Nat → Nat) (n p Pm st c0 x : Nat)
/-- what a reading method does -/
def Sp (m D tkn lev o : Nat) : Prop := ∀ (a l N : Nat) (sc : SC) (cl : CL) (ac : Nat → Nat) (t : gSt) (post : Option Value → gSt → Prop), Lay t ad → CR ad T n p Pm st l o sc cl.length N t → cuC ad T n a t → BD n Pm st c0 a l o sc cl N →
  (∀ a' l' cl' ac' F u, fo_l F = 1 → LV ad T n p Pm x st cl.length a l o sc cl ac N t a' l' cl' ac' F u → (∀ V K, VK V K a lev cl.length → RcT cx dm ad T n x Pm c0 (a, l, o, sc, cl, ac, V, K ++ [(tkn, 0, [])]) (a', l', o, sc, cl', ac', fo_ap V F, K)) → post none u) →
  (∀ c q u, gFr ad (crxP p) t u → ddC ad c q u → (∀ V K, VK V K a lev cl.length → RfT cx dm ad T n x Pm c0 (a, l, o, sc, cl, ac, V, K ++ [(tkn, 0, [])]) c q) → post none u) →
  g_E cx D m [.ref (ad 3)] t post
end CE
section CF
variable {cx : gCx} {dm : Nat} {ad : Nat → Nat} {T : Nat → Nat} {n p Pm st c0 x e a l o N a1 l1 a2 a3 l3 : Nat} {sc : SC} {cl cl1 cl3 : CL} {ac ac1 ac3 : Nat → Nat} {A B F : Fo} {t u w v : gSt} {post : Option Value → gSt → Prop}
theorem cl_pre {i : Nat} {q : List Nat × Nat × Nat} (h : PG Pm x o e a l sc cl ac a1 l1 cl1 ac1 F) (hi : i < cl.length) (hq : cl1[i]? = some q) : cl[i]? = some q := by
  obtain ⟨z, hz, _⟩ := h.2.2.1
  rw [hz, List.getElem?_append_left hi] at hq
  exact hq
/-- an operator between two trees -/
theorem LV.two {j : Nat} {k : Int32} (hj : (3 ≤ j ∧ j ≤ 9) ∨ j = 12) (hk : k = nI j) (hp : isQ p) (hA : fo_l A = 1) (hB : fo_l B = 1) (h1 : LV ad T n p Pm x st cl.length a l o sc cl ac N t a1 l1 cl1 ac1 A u) (h12 : a1 < a2)
    (Fv : gFr ad (crxP p) u v) (bv : bel ad p (st + min N 400) u v) (rv : N + fo_n A + 1 ≤ 400 → rowC ad p (st + N) ((k, 0) :: fo_p A) v) (cv : ∀ c, belC ad c u v)
    (h2 : LV ad T n p Pm x st cl1.length a2 l1 o sc cl1 ac1 (N + fo_n A + 1) v a3 l3 cl3 ac3 B w) : LV ad T n p Pm x st cl.length a l o sc cl ac N t a3 l3 cl3 ac3 (.inner 0 k 0 (fo_ap A B) .leaf) w := by
  obtain ⟨p1, p2, p3, p4, p5, p6, p7, p8, p9⟩ := h1
  obtain ⟨q1, q2, q3, q4, q5, q6, q7, q8, q9⟩ := h2
  have g1 := p2.le
  have g2 := q2.le
  have en : fo_n (.inner 0 k 0 (fo_ap A B) .leaf) = fo_n A + 1 + fo_n B := by simp only [fo_n, fo_n_ap]; omega
  have ep : fo_p (.inner 0 k 0 (fo_ap A B) .leaf) = ((k, 0) :: fo_p A) ++ fo_p B := by simp only [fo_p, fo_p_ap, List.append_nil, List.cons_append]
  have hl1 : ((k, (0 : Int32)) :: fo_p A).length = fo_n A + 1 := by rw [List.length_cons, fo_pn]
  have hh := p2.ap q2 (Or.inl h12)
  have hnd : PG Pm x o cl.length a l sc cl ac (a3 + 1) l3 cl3 ac3 (.inner 0 k 0 (fo_ap A B) .leaf) := hh.nd (j := j) (a0 := a) (by omega) hk (by
    rw [fo_l_ap, hA, hB]
    rcases hj with hj | rfl
    · rw [if_neg (by omega), if_neg (by omega)]
    · rfl) (Or.inr (Nat.lt_succ_self a3)) (Nat.le_refl _) (Nat.le_succ _)
  have hpg : PG Pm x o cl.length a l sc cl ac a3 l3 cl3 ac3 (.inner 0 k 0 (fo_ap A B) .leaf) := by
    obtain ⟨b1, b2, b3, b4, b5, b6, b7, b8, b9⟩ := hnd
    obtain ⟨c1, c2, c3, c4, c5, c6, c7, c8, c9⟩ := hh
    refine ⟨?_, b2, b3, c4, b5, b6, b7, b8, c9⟩
    rw [en]
    have := p2.1
    have := q2.1
    omega
  refine ⟨(p1.tr Fv).tr q1, hpg, ?_, q4, q5, (p6.tr bv).tr (q6.mo (by omega)), fun z => ?_, (p8.tr (cv _)).tr (q8.mo g1), fun i q hi hq => ?_⟩
  · rw [en, show N + (fo_n A + 1 + fo_n B) = N + fo_n A + 1 + fo_n B by omega]
    exact q3
  · rw [en] at z
    rw [ep]
    refine rowC.ap ((rv (by omega)).be q6 (by rw [hl1]; omega)) ?_
    rw [hl1, show st + N + (fo_n A + 1) = st + (N + fo_n A + 1) by omega]
    exact q7 (by omega)
  · by_cases z : i < cl1.length
    · have hq1 := cl_pre q2 z hq
      have h5 := p9 i q hi hq1
      have b5 := ((cv (i + 1)) i (by omega))
      have b6 := q8 i z
      rw [b6.1, b6.2.1, b6.2.2, b5.1, b5.2.1, b5.2.2, q2.2.2.2.2.1 i z (by omega)]
      exact h5
    · exact q9 i q (by omega) hq
/-- an operator is set in, a tree behind it read -/
theorem op_go {m D D1 D2 tkn lev j : Nat} {k : Int32} {R : gSt → Prop} (hj : (3 ≤ j ∧ j ≤ 9) ∨ j = 12) (hk : k = nI j) (hp : isQ p) (hT : txt T n) (hA : fo_l A = 1) (hB : BD n Pm st c0 a l o sc cl N) (h1 : LV ad T n p Pm x st cl.length a l o sc cl ac N t a1 l1 cl1 ac1 A u) (hh : hcC ad T n a1 u) (hk0 : tkK T n a1 ≠ 0) (hs : Sp cx dm ad T n p Pm st c0 x m D tkn lev o)
    (kl : ∀ a' l' cl' ac' B w, fo_l B = 1 → LV ad T n p Pm x st cl.length a l o sc cl ac N t a' l' cl' ac' (.inner 0 k 0 (fo_ap A B) .leaf) w → tkE T n a1 + fo_n B ≤ a' → (∀ V K, VK V K (tkE T n a1) lev cl1.length → RcT cx dm ad T n x Pm c0 (tkE T n a1, l1, o, sc, cl1, ac1, V, K ++ [(tkn, 0, [])]) (a', l', o, sc, cl', ac', fo_ap V B, K)) → R w)
    (kd : ∀ c q w, gFr ad (crxP p) t w → ddC ad c q w → (∀ V K, VK V K (tkE T n a1) lev cl1.length → RfT cx dm ad T n x Pm c0 (tkE T n a1, l1, o, sc, cl1, ac1, V, K ++ [(tkn, 0, [])]) c q) → R w) :
    g_E cx (D1 + 1) i_Reader_insertNode [.ref (ad 3), .int (nI (st + min N 400)), .int k, .int 0] u (fun r u5 => r = none ∧ Lay u5 ad ∧ g_E cx (D2 + 1) i_Tokens_take [.ref (ad 4)] u5 (fun r u7 => r = none ∧ Lay u7 ad ∧ g_E cx D m [.ref (ad 3)] u7 (fun r u9 => r = none ∧ Lay u9 ad ∧ R u9))) := by
  have h1' := h1
  obtain ⟨p1, p2, p3, p4, p5, p6, p7, p8, p9⟩ := h1
  obtain ⟨⟨b1, b2, b3, b4, b5, b6, b7, b8⟩, b9, b10⟩ := hB
  have hn := hT.1
  have hE := tkE_gt hT p5 hk0
  have hEl := tkE_le hT p5
  have hpn := p2.1
  have hpl := p2.2.2.2.1
  have g1 := p2.le
  have hpg := hp.ge
  refine m_insert hp p1.L p3 (by omega) (by omega) (by omega) (fun u5 F5 c5 bl5 r5 => ⟨rfl, F5.L, ?_⟩)
  refine m_takeC F5.L (hh.fr F5 (fun k => bool_r inP_i (by omega))) (fun u7 F7 c7 _ => ⟨rfl, F7.L, ?_⟩)
  have Fv : gFr ad (crxP p) u u7 := (F5.mo (fun c k z => ce_in z)).tr (F7.mo (fun c k z => ce_tc z))
  have b57 : ∀ U, bel ad p U u5 u7 := fun U => bel.fr (by omega) F7 (fun c k z => bool_r tcP_i (by omega))
  have cv : ∀ c, belC ad c u u7 := fun c => belC.tr (belC.fr F5 (fun c k z => bool_r inP_i (by omega))) (belC.fr F7 (fun c k z => bool_r tcP_i (by omega)))
  have rv : N + fo_n A + 1 ≤ 400 → rowC ad p (st + N) ((k, 0) :: fo_p A) u7 := fun z => by
    have := r5 z (fo_p A) (by rw [fo_pn]; omega) (by rw [show st + min N 400 = st + N by omega]; exact p7 (by omega))
    rw [show st + min N 400 = st + N by omega] at this
    exact this.be (b57 _) (Nat.le_refl _)
  refine hs (tkE T n a1) l1 (N + fo_n A + 1) sc cl1 ac1 u7 _ F7.L (c5.tc F7) c7 ⟨⟨hEl, p2.2.1.2, b3, b4, b5, by omega, by omega, by omega⟩, b9, p2.2.2.2.2.2.2.2.2.mo (by omega)⟩ (fun a' l' cl' ac' B w hB1 hL hr => ⟨rfl, hL.1.L, kl a' l' cl' ac' B w hB1 (LV.two hj hk hp hA hB1 h1' hE Fv (bl5.tr (b57 _)) rv cv hL) hL.2.1.1 hr⟩) (fun c q w Fw hd hr => ⟨rfl, Fw.L, kd c q w ((p1.tr Fv).tr Fw) hd hr⟩)
end CF
