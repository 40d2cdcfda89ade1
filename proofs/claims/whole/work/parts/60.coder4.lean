/-! THE CLASS'S CODER: one function -/
def kEnF (P : Nat) (st : WS) (s : KS) : KS := match st.reverse with
  | [] => s
  | (_, k, v, _, _) :: rs => match rs with
    | [] => kEn0 P k v s
    | (_, pk, _, dn, _) :: _ => kEn1 (st.length - 1) pk dn k v s
def kLvF (cap base : Nat) (tl : Bool) (own : Nat) (par : Int32 → Nat) (st : WS) (s : KS) : KS := match st.getLast? with
  | none => s
  | some (_, k, v, _, _) => kLv cap base (st.length - 1) tl own par k v s
def kBkF (cap base : Nat) (st : WS) (s : KS) : KS := match st.getLast? with
  | none => s
  | some (_, k, v, dn, _) => kBk cap base (st.length - 1) k v (dn - 1) s
theorem nil_app {α : Type} (st : List α) : st = [] ∨ ∃ st' q, st = st' ++ [q] := by
  rcases List.eq_nil_or_concat st with h | ⟨a, b, h⟩
  · exact Or.inl h
  · exact Or.inr ⟨a, b, by rw [h, List.concat_eq_append]⟩
section C4
variable {cx : gCx} {d : Nat} {ad : Nat → Nat} {t0 t : gSt} {post : Option Value → gSt → Prop} {p n : Nat} {par : Int32 → Nat}
theorem QK.wk {s : KS} {u : gSt} (hp : isP p) (hF : gFr ad (wP 68) t u) (h : QK t0 ad p s t) : QK t0 ad p s u := by
  have hpg := hp.ge
  have hpl := hp.lt
  have o : ∀ c, (c < 68 ∨ 73 < c) → c < 199 → u.2.1 (ad c) = t.2.1 (ad c) := fun c hc hl => funext (fun k => hF.i c k (wP_out (by omega)) hl)
  obtain ⟨h1, ⟨h2, h3⟩, ⟨h4, h5⟩, ⟨h6, h7, h8⟩, ⟨h9, h10, h11, h12, h13⟩, h14⟩ := h
  refine ⟨h1.tr (hF.mo (fun c k q => ckP_t (by
    unfold wP at q
    simp only [Bool.and_eq_true, Nat.ble_eq] at q
    omega))), ⟨?_, ?_⟩, ⟨?_, h5⟩, ⟨?_, ?_, ?_⟩, ⟨?_, ?_, ?_, ?_, ?_⟩, h14⟩
  · rw [o _ (by omega) (by omega)]; exact h2
  · rw [o _ (by omega) (by omega)]; exact h3
  · rw [o 67 (by decide) (by decide)]; exact h4
  · rw [o 67 (by decide) (by decide)]; exact h6
  · rw [o 67 (by decide) (by decide)]; exact h7
  · rw [o 67 (by decide) (by decide)]; exact h8
  · rw [o 74 (by decide) (by decide)]; exact h9
  · rw [o 75 (by decide) (by decide)]; exact h10
  · rw [o 76 (by decide) (by decide)]; exact h11
  · rw [o 77 (by decide) (by decide)]; exact h12
  · rw [o 78 (by decide) (by decide)]; exact h13
theorem m_encode_loop {F : Fo} {s0 f base P : Nat} {tl : Bool} {s : KS} (hp : isP p) (hr : t0.2.2.2 (ad 67) 6 = some (ad p)) (hf : f < 24) (h8 : t0.2.1 (ad 67) 8 = nI f) (h7 : t0.2.1 (ad 67) 7 = b32 tl) (hb : t0.2.1 (ad (p + 7)) f = nI base) (hP : t0.2.1 (ad (p + 2)) f = nI P) (hRp : RPar t0 ad p n par) (hpar : ∀ v, par v ≤ 900) (hs : s0 + fo_n F ≤ c_len (p + 12)) (hrw : rows (t0.2.1 (ad (p + 12))) (t0.2.1 (ad (p + 13))) s0 (fo_p F)) (h1 : fo_l F = 1) (hV : fo_v n par vK F) (hn5 : fo_n F ≤ 500) (hR : RW t0 ad 68 p [] s0 0) (hQ : QK t0 ad p s t0)
    (hK : ∀ u, QK t0 ad p (visT (kEnF P) (kLvF (c_len (p + 14)) base tl f par) (kBkF (c_len (p + 14)) base) F s0 s) u → vp_in (nI f) 24 ∧ (vp_in (nI f) 24 ∧ (∀ t6, t6 = g_si u (ad (p + 8)) (nI f).toNatClampNeg ((u.2.1 (ad 67) 9) - (u.2.1 (ad (p + 7)) (nI f).toNatClampNeg)) → vp_in (nI f) 24 ∧ (∀ t7, t7 = g_si t6 (ad (p + 9)) (nI f).toNatClampNeg (t6.2.1 (ad 67) 12) → vp_in (nI f) 24 ∧ (∀ t8, t8 = g_si t7 (ad (p + 10)) (nI f).toNatClampNeg (t7.2.1 (ad 67) 11) → post none t8))))) :
    g_W cx (g_E cx (d + 3)) mt_Coder_encodeIn post (83, [some (.ref (ad 67)), some (.int (nI f)), some (.int (nI 0))], [], t0, 0, 0) := by
  have hw : isW 68 := by simp [isW]
  have hpg := hp.ge
  have hpl := hp.lt
  have R6 : ∀ {s t}, QK t0 ad p s t → t.2.2.2 (ad 67) 6 = some (ad p) := fun h => by rw [h.1.r 67 6 (ckP_r (by omega))]; exact hr
  have R8 : ∀ {s t}, QK t0 ad p s t → t.2.1 (ad 67) 8 = nI f := fun h => by rw [h.1.i 67 8 (ckP_r (by omega))]; exact h8
  have R7 : ∀ {s t}, QK t0 ad p s t → t.2.1 (ad 67) 7 = b32 tl := fun h => by rw [h.1.i 67 7 (ckP_r (by omega))]; exact h7
  have Rb : ∀ {s t}, QK t0 ad p s t → t.2.1 (ad (p + 7)) f = nI base := fun h => by rw [h.1.i _ _ (ckP_r (by omega)) (by omega)]; exact hb
  have RP' : ∀ {s t}, QK t0 ad p s t → t.2.1 (ad (p + 2)) f = nI P := fun h => by rw [h.1.i _ _ (ckP_r (by omega)) (by omega)]; exact hP
  have Rpar : ∀ {s t}, QK t0 ad p s t → RPar t ad p n par := fun h => ⟨hRp.1, by rw [h.1.i _ _ (ckP_r (by omega)) (by omega)]; exact hRp.2.1, fun g hg => by rw [h.1.i _ _ (ckP_r (by omega)) (by omega)]; exact hRp.2.2 g hg⟩
  have har : ∀ k v, k_ar par k v < 1000 := by
    intro k v
    have := hpar v
    unfold k_ar
    split
    · omega
    · split
      · omega
      · split
        · omega
        · split <;> omega
  have rwf : ∀ {u u' : gSt} {st nx ev}, gFr ad (khP p) u u' → RW u ad 68 p st nx ev → RW u' ad 68 p st nx ev := fun F h => h.fr hw F (fun j k hj => khP_r (by omega))
  have m15 : ∀ m, m < 1500 → ¬ (1500 : Int32) ≤ nI m := fun m hm c => by
    rw [show (1500 : Int32) = nI 1500 from rfl, nI_leI (by omega) (by omega)] at c
    omega
  refine visT_ok (Hd := fun m t => g_W cx (g_E cx (d + 3)) mt_Coder_encodeIn post (83, [some (.ref (ad 67)), some (.int (nI f)), some (.int (nI m))], [], t, 0, 0)) (Q := QK t0 ad p) (en := kEnF P) (lv := kLvF (c_len (p + 14)) base tl f par) (bk := kBkF (c_len (p + 14)) base) (w := 68) (p := p) (n := n) (par := par) (C := vK) (s0 := s0) (L := fo_p F) hpar (by rw [fo_pn]; exact hs) ?_ ?_ ?_ ?_ h1 hV rfl hn5 hR hQ ?_
  · intro s t h i q hq
    rw [h.1.i (p + 12) _ (ckP_r (by omega)) (by omega), h.1.i (p + 13) _ (ckP_r (by omega)) (by omega)]
    exact hrw i q hq
  · intro m t s st nx ev k v hm hR hq hev htop hst hnx ek ev' hk hg hC hK2
    refine x_Coder_encodeIn_83 hp hq.1.L (R6 hq) ⟨fun c => absurd c (m15 m hm), fun _ => ?_⟩
    refine adv_enter hp hw hq.1.L (Rpar hq) hR hev htop hst hnx ek ev' hk hg (fun u hF hRu hlev => ?_)
    have hqu := hq.wk hp hF
    refine ⟨1, rfl, hF.L, R6 hqu, fun c => absurd c (by decide), fun _ => ⟨fun c => absurd (by rw [hRu.2.1]; rfl) c, fun _ => ?_⟩⟩
    rw [hlev]
    have hme := hRu.2.2.2.2 st.length (nx, k, v, 0, k_ar par k v) (by simp)
    rcases nil_app st with rfl | ⟨st', q', rfl⟩
    · refine m_kenter0 (f := f) (P := P) hp (R6 hqu) hf (R8 hqu) (RP' hqu) hme.2.1 hme.2.2.1 hC hqu (fun u' hu' F' => ⟨rfl, F'.L, ?_⟩)
      rw [nI_1]
      exact hK2 u' (rwf F' hRu) hu'
    · obtain ⟨nd, pk, pv, dn, wn⟩ := q'
      have hpar' := hRu.2.2.2.2 st'.length (nd, pk, pv, dn, wn) (by simp)
      have hlt := htop (nd, pk, pv, dn, wn) (by simp)
      dsimp only at hlt
      rw [List.length_append] at hme hst ⊢
      refine m_kenter1 (D := st'.length) (dn := dn) (pk := pk) hp (R6 hqu) hst (by omega) hpar'.2.1 hpar'.2.2.2.1 hme.2.1 hme.2.2.1 hC hqu (fun u' hu' F' => ⟨rfl, F'.L, ?_⟩)
      rw [nI_1]
      refine hK2 u' (rwf F' hRu) ?_
      have e : kEnF P (st' ++ [(nd, pk, pv, dn, wn)] ++ [(nx, k, v, 0, k_ar par k v)]) s = kEn1 (st'.length + 1) pk dn k v s := by
        unfold kEnF
        simp
      rw [e]
      exact hu'
  · intro m t s st nx ev nd k v hm hR hq hev hst hC hg hk hK2
    refine x_Coder_encodeIn_83 hp hq.1.L (R6 hq) ⟨fun c => absurd c (m15 m hm), fun _ => ?_⟩
    refine adv_leave hw hq.1.L hR hev hst (har k v) (fun u hF hRu hlev => ?_)
    have hqu := hq.wk hp hF
    refine ⟨1, rfl, hF.L, R6 hqu, fun c => absurd c (by decide), fun _ => ⟨fun _ => ⟨fun _ => ?_, fun c => absurd (by rw [hRu.2.1]; decide) c⟩, fun c => absurd (by rw [hRu.2.1]; decide) c⟩⟩
    rw [hlev]
    have hme := hRu.2.2.2.2 st.length (nd, k, v, k_ar par k v, k_ar par k v) (by simp)
    refine m_kleave (f := f) (base := base) (tl := tl) (par := par) (n := n) hp (R6 hqu) hf (R8 hqu) (R7 hqu) (Rb hqu) (Rpar hqu) hst hme.2.1 hme.2.2.1 hk hg hC hqu (fun u' hu' F' => ⟨rfl, F'.L, ?_⟩)
    rw [nI_1]
    refine hK2 u' (rwf F' hRu) ?_
    have e : kLvF (c_len (p + 14)) base tl f par (st ++ [(nd, k, v, k_ar par k v, k_ar par k v)]) s = kLv (c_len (p + 14)) base st.length tl f par k v s := by
      unfold kLvF
      rw [gl_app]
      simp
    rw [e]
    exact hu'
  · intro m t s st nx nd k v dn top hm hR hq hst hdn hC hg hk hK2
    refine x_Coder_encodeIn_83 hp hq.1.L (R6 hq) ⟨fun c => absurd c (m15 m hm), fun _ => ?_⟩
    refine adv_behind hw hq.1.L hR hst (fun u hF hRu hlev hkid => ?_)
    have hqu := hq.wk hp hF
    refine ⟨1, rfl, hF.L, R6 hqu, fun c => absurd c (by decide), fun _ => ⟨fun _ => ⟨fun c => absurd (by rw [hRu.2.1]; rfl) c, fun _ => ?_⟩, fun c => absurd (by rw [hRu.2.1]; decide) c⟩⟩
    rw [hlev, hkid]
    have hme := hRu.2.2.2.2 st.length (nd, k, v, dn + 1, k_ar par k v) (by simp)
    have := har k v
    refine m_kbehind (f := f) (base := base) hp (R6 hqu) hf (R8 hqu) (Rb hqu) (by omega) (by omega) hme.2.1 hme.2.2.1 hC hqu (fun u' hu' F' => ⟨rfl, F'.L, ?_⟩)
    rw [nI_1]
    refine hK2 u' (rwf F' hRu) ?_
    have e : kBkF (c_len (p + 14)) base (st ++ [(nd, k, v, dn + 1, k_ar par k v)]) s = kBk (c_len (p + 14)) base st.length k v dn s := by
      unfold kBkF
      rw [gl_app]
      simp
    rw [e]
    exact hu'
  · intro u top nx hRu hqu
    have hfn : 0 < fo_n F := by
      match F, h1 with
      | .inner _ _ _ _ _, _ => simp [fo_n]; omega
    refine x_Coder_encodeIn_83 hp hqu.1.L (R6 hqu) ⟨fun c => absurd c (m15 _ (by omega)), fun _ => ?_⟩
    refine adv_end hw hqu.1.L hRu (fun u' hF => ?_)
    have hqu' := hqu.wk hp hF
    exact ⟨0, rfl, hF.L, R6 hqu', fun _ => hK u' hqu', fun c => absurd rfl c⟩
end C4
