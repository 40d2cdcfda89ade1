/-! THE CLASS READS AN EXPRESSION: variables and calls -/
def kcP (c k : Nat) : Bool := (Nat.beq c 3 && Nat.beq k 8) || Nat.beq c 5 || Nat.beq c 6 || Nat.beq c 7
theorem kcP_i {c k : Nat} : kcP c k = true ↔ (c = 3 ∧ k = 8) ∨ c = 5 ∨ c = 6 ∨ c = 7 := by
  unfold kcP
  simp only [Bool.or_eq_true, Bool.and_eq_true, Nat.beq_eq]
  omega
section CL0
variable {cx : gCx} {d dm : Nat} {ad : Nat → Nat} {T : Nat → Nat} {n p Pm st c0 x l o cn N : Nat} {sc : SC} {t u : gSt} {post : Option Value → gSt → Prop}
theorem ce_kc {c k : Nat} (h : kcP c k = true) : crxP p c k = true := by
  rw [kcP_i] at h
  rw [crxP_i]
  omega
theorem CR.cn1 {cn' : Nat} (h : CR ad T n p Pm st l o sc cn N t) (hF : gFr ad kcP t u) (h8 : u.2.1 (ad 3) 8 = nI cn') : CR ad T n p Pm st l o sc cn' N u := by
  obtain ⟨h1, h2, h3, ⟨h4, h5⟩, h6, h7, h8', h9, h10⟩ := h
  refine ⟨h1.fr hF rfl rfl (fun k => rfl), ?_, h8, ⟨?_, fun i q hq => ?_⟩, ?_, ?_, ?_, ?_, ?_⟩
  · rw [hF.r 3 7 rfl]; exact h2
  · rw [hF.i 3 9 rfl]; exact h4
  · rw [hF.j 9 i rfl, hF.i 10 i rfl]; exact h5 i q hq
  · rw [hF.i 3 10 rfl]; exact h6
  · rw [hF.i 3 11 rfl]; exact h7
  · rw [hF.i 3 12 rfl]; exact h8'
  · rw [hF.i 3 13 rfl]; exact h9
  · rw [hF.i 3 14 rfl]; exact h10
/-- a variable's node -/
theorem m_addVar {nm : List Nat} {q : Nat} (hp : isQ p) (hL : Lay t ad) (hR : CR ad T n p Pm st l o sc cn N t) (hs : sc.length ≤ 46) (hnm : nm_ok nm) (hsc : ∀ q ∈ sc, nm_ok q.1 ∧ q.2 < 50) (hN : N < 2 ^ 20) (hst : st + N < 3000) (h0 : t.2.1 (ad 4) 8 = 0) (k1 : ∀ v u, scl sc nm sc.length = some v → gFr ad (inP p) t u → CR ad T n p Pm st l o sc cn (N + 1) u → bel ad p (st + min N 400) t u → (N + 1 ≤ 400 → rowC ad p (st + N) [(2, nI v)] u) → post none u) (k2 : scl sc nm sc.length = none → ∀ u, gFr ad (crxP p) t u → ddC ad 4 q u → post none u) : g_E cx (d + 3) i_Reader_addVariable [.ref (ad 3), .long (pk8 nm), .int (nI q)] t post := by
  refine x_Reader_addVariable hL (m_findVar hL hR hs hnm (fun q hq => (hsc q hq).1) ?_)
  cases e : scl sc nm sc.length with
  | some v =>
    have hv := scl_in (sc := sc) (nm := nm) sc.length (Nat.le_refl _) e
    refine ⟨_, rfl, hL, fun _ => m_addN hp hL hR hN hst (fun u F c b r => ⟨rfl, F.L, k1 v u e F c b r⟩), fun z => ?_⟩
    obtain ⟨q', hq', e'⟩ := List.mem_map.mp hv
    have hlt := (hsc q' hq').2
    have z : nI v = -1 := Classical.not_not.mp z
    have : (-1 : Int32) < 0 := by decide
    rw [← z, ← e'] at this
    exact absurd this (nI_pos (by omega))
  | none =>
    refine ⟨_, rfl, hL, fun z => absurd rfl z, fun _ => m_failAt (c := 4) hL (by decide) h0 (fun w Fw hd _ => ⟨rfl, Fw.L, m_addN hp Fw.L (hR.tc Fw) hN hst (fun u F c b r => ⟨rfl, F.L, k2 e u ((Fw.mo (fun c k z => ce_tc z)).tr (F.mo (fun c k z => ce_in z))) (hd.fr F (fun k => bool_r inP_i (by have := hp.ge; omega)))⟩)⟩)⟩
end CL0
