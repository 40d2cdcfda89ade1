/-! FOLDING, the class: the loop over the events -/
section FH
variable {cx : gCx} {d : Nat} {ad : Nat → Nat} {t0 : gSt} {post : Option Value → gSt → Prop} {f n : Nat} {par : Int32 → Nat}
def fHd (cx : gCx) (d : Nat) (ad : Nat → Nat) (f : Nat) (post : Option Value → gSt → Prop) (m : Nat) (t : gSt) : Prop := g_W cx (g_E cx (d + 4)) mt_Folder_foldIn post (48, [some (.ref (ad 55)), some (.int (nI f)), some (.int (nI m))], [], t, 0, 0)
def FK (ad : Nat → Nat) (t0 : gSt) (f n : Nat) (par : Int32 → Nat) : Prop := (f < 24) ∧ (t0.2.2.2 (ad 55) 6 = some (ad 96)) ∧ (RPar t0 ad 96 n par) ∧ (∀ v, par v ≤ 6)
theorem FK.hf {ad : Nat → Nat} {t0 : gSt} {f n : Nat} {par : Int32 → Nat} (h : FK ad t0 f n par) : f < 24 := h.1
theorem FK.hr {ad : Nat → Nat} {t0 : gSt} {f n : Nat} {par : Int32 → Nat} (h : FK ad t0 f n par) : t0.2.2.2 (ad 55) 6 = some (ad 96) := h.2.1
theorem FK.hp {ad : Nat → Nat} {t0 : gSt} {f n : Nat} {par : Int32 → Nat} (h : FK ad t0 f n par) : RPar t0 ad 96 n par := h.2.2.1
theorem FK.h6 {ad : Nat → Nat} {t0 : gSt} {f n : Nat} {par : Int32 → Nat} (h : FK ad t0 f n par) : ∀ v, par v ≤ 6 := h.2.2.2
theorem kar6 {par : Int32 → Nat} (h : ∀ v, par v ≤ 6) (k v : Int32) : k_ar par k v ≤ 6 := by
  have := h v
  unfold k_ar
  split
  · omega
  · split
    · omega
    · split
      · omega
      · split <;> omega
theorem FK.r {nx : Nat} {O : List (Int32 × Int32)} {lv : FLV} {kn : RHO} {t : gSt} (K : FK ad t0 f n par) (h : QF t0 ad f nx O lv kn t) : t.2.2.2 (ad 55) 6 = some (ad 96) := by rw [h.1.r 55 6 (foP_r (by omega))]; exact K.hr
theorem FK.p {nx : Nat} {O : List (Int32 × Int32)} {lv : FLV} {kn : RHO} {t : gSt} (K : FK ad t0 f n par) (h : QF t0 ad f nx O lv kn t) : RPar t ad 96 n par := rp_fs h.1 (fun c k hc => foP_r (by omega)) K.hp
theorem m15' {m : Nat} (hm : m < 1500) : ¬ (1500 : Int32) ≤ nI m := fun c => by
  rw [show (1500 : Int32) = nI 1500 from rfl, nI_leI (by omega) (by omega)] at c
  omega
theorem s_enter {m nx ev : Nat} {st : WS} {O : List (Int32 × Int32)} {lv : FLV} {kn : RHO} {t : gSt} {k v : Int32} (K : FK ad t0 f n par) (hm : m < 1500) (hR : RW t ad 56 96 st nx ev) (hQ : QF t0 ad f nx O lv kn t) (hev : ev < 3) (htop : ∀ q, st.getLast? = some q → q.2.2.2.1 < q.2.2.2.2 ∧ q.2.2.2.2 < 1000) (hs : st.length < 500) (hnx : nx < 12000) (hk1 : t0.2.1 (ad 108) nx = k) (hv1 : t0.2.1 (ad 109) nx = v) (hk : ∃ j, 1 ≤ j ∧ j ≤ 15 ∧ k = nI j) (hg : k = 15 → ∃ g, v = nI g ∧ g < n) (hv : k = 2 → ∃ i, i < 120 ∧ v = nI i) (hO : O.length < 500) (hn : 500 * f + O.length ≤ nx) (hl : lv.length = st.length)
    (h : ∀ u, RW u ad 56 96 (st ++ [(nx, k, v, 0, k_ar par k v)]) (nx + 1) 1 → QF t0 ad f (nx + 1) (O ++ [if k = 2 then (match kn v with | some x => (1, x) | none => (k, v)) else (k, v)]) (lv ++ [(O.length, 0, false)]) kn u → fHd cx d ad f post (m + 1) u) : fHd cx d ad f post m t := by
  have hw : isW 56 := by simp [isW]
  have e8 := hQ.2.2.2.1 nx (Or.inr (Nat.le_refl _))
  refine x_Folder_foldIn_48 hQ.1.L (K.r hQ) ⟨fun c => absurd c (m15' hm), fun _ => ?_⟩
  refine adv_enter (d := d + 1) (Or.inl rfl) hw hQ.1.L (K.p hQ) hR hev htop hs hnx (e8.1.trans hk1) (e8.2.trans hv1) hk hg (fun u hF hRu hlev => ?_)
  have Qu := hQ.w hF
  refine ⟨1, rfl, hF.L, K.r Qu, fun c => absurd c (by decide), fun _ => ⟨fun c => absurd (by rw [hRu.2.1]; rfl) c, fun _ => ?_⟩⟩
  rw [hlev, nI_1]
  exact m_fenter (d := d + 2) K.hf (K.r Qu) (Qu.up (Nat.le_succ nx)) hO (by omega) hl hs hRu hv (fun u2 F2 Q2 => ⟨rfl, F2.L, h u2 (rw_fs F2 hRu) Q2⟩)
theorem s_leave {m nx ev : Nat} {st : WS} {O O' : List (Int32 × Int32)} {lv lv' : FLV} {kn : RHO} {t : gSt} {k v : Int32} {nd : Nat} (K : FK ad t0 f n par) (hm : m < 1500) (hR : RW t ad 56 96 (st ++ [(nd, k, v, k_ar par k v, k_ar par k v)]) nx ev) (hQ : QF t0 ad f nx O lv' kn t) (hev : ev < 3) (hs : st.length < 500)
    (H : ∀ (u : gSt) (post' : Option Value → gSt → Prop), RW u ad 56 96 (st ++ [(nd, k, v, k_ar par k v, k_ar par k v)]) nx 3 → QF t0 ad f nx O lv' kn u → (∀ u2, gFr ad fsP u u2 → QF t0 ad f nx O' lv kn u2 → post' none u2) → g_E cx (d + 4) i_Folder_leave [.ref (ad 55), .int (nI st.length)] u post')
    (h : ∀ u, RW u ad 56 96 (st ++ [(nd, k, v, k_ar par k v, k_ar par k v)]) nx 3 → QF t0 ad f nx O' lv kn u → fHd cx d ad f post (m + 1) u) : fHd cx d ad f post m t := by
  have hw : isW 56 := by simp [isW]
  refine x_Folder_foldIn_48 hQ.1.L (K.r hQ) ⟨fun c => absurd c (m15' hm), fun _ => ?_⟩
  refine adv_leave (d := d + 3) hw hQ.1.L hR hev hs (by have := kar6 K.h6 k v; omega) (fun u hF hRu hlev => ?_)
  have Qu := hQ.w hF
  refine ⟨1, rfl, hF.L, K.r Qu, fun c => absurd c (by decide), fun _ => ⟨fun _ => ⟨fun _ => ?_, fun c => absurd (by rw [hRu.2.1]; decide) c⟩, fun c => absurd (by rw [hRu.2.1]; decide) c⟩⟩
  rw [hlev, nI_1]
  exact H u _ hRu Qu (fun u2 F2 Q2 => ⟨rfl, F2.L, h u2 (rw_fs F2 hRu) Q2⟩)
theorem s_behind {m nx : Nat} {st : WS} {O : List (Int32 × Int32)} {lv : FLV} {kn : RHO} {t : gSt} {k v : Int32} {nd dn wn : Nat} {top : Nat × Int32 × Int32 × Nat × Nat} {C : gSt → Prop} (K : FK ad t0 f n par) (hm : m < 1500) (hR : RW t ad 56 96 (st ++ [(nd, k, v, dn, wn), top]) nx 3) (hQ : QF t0 ad f nx O lv kn t) (hs : st.length < 499)
    (H : ∀ (u : gSt) (post' : Option Value → gSt → Prop), RW u ad 56 96 (st ++ [(nd, k, v, dn + 1, wn)]) nx 2 → QF t0 ad f nx O lv kn u → u.2.1 (ad 56) 6 = nI st.length → (∀ u2, Lay u2 ad → C u2 → post' none u2) → g_E cx (d + 4) i_Folder_behindKid [.ref (ad 55), .int (nI st.length), .int (nI dn)] u post')
    (h : ∀ u, C u → fHd cx d ad f post (m + 1) u) : fHd cx d ad f post m t := by
  have hw : isW 56 := by simp [isW]
  refine x_Folder_foldIn_48 hQ.1.L (K.r hQ) ⟨fun c => absurd c (m15' hm), fun _ => ?_⟩
  refine adv_behind (d := d + 3) hw hQ.1.L hR hs (fun u hF hRu hlev hkid => ?_)
  have Qu := hQ.w hF
  refine ⟨1, rfl, hF.L, K.r Qu, fun c => absurd c (by decide), fun _ => ⟨fun _ => ⟨fun c => absurd (by rw [hRu.2.1]; rfl) c, fun _ => ?_⟩, fun c => absurd (by rw [hRu.2.1]; decide) c⟩⟩
  rw [hlev, hkid, nI_1]
  exact H u _ hRu Qu hlev (fun u2 L2 C2 => ⟨rfl, L2, h u2 C2⟩)
end FH
