/-! FOLDING, the model: expressions whose nodes tell their number in the row -/
def fz : Fo → Fo
  | .inner _ k v a b => .inner 0 k v (fz a) (fz b)
  | .leaf => .leaf
def zr : Fo → List Nat
  | .inner z _ _ _ b => z :: zr b
  | .leaf => []
def zq : Fo → List Nat
  | .inner z _ _ a b => zq a ++ z :: zq b
  | .leaf => []
def rpd (L : List ND) (G : List Int32) : Fo → Prop
  | .inner z k v a b => rpd L G a ∧ fo_k (nK L) (nA L) (nBb L) (nC L) (aG G) G.length id z k v (zr a) ∧ rpd L G b
  | .leaf => True
def cmo (cm : Nat → Bool) : Fo → Prop
  | .inner z k v a b => cm z = fcalm (.inner z k v a .leaf) ∧ cmo cm b
  | .leaf => True
theorem fz_n : ∀ F : Fo, fo_n (fz F) = fo_n F
  | .leaf => rfl
  | .inner z k v a b => by simp only [fz, fo_n, fz_n a, fz_n b]
theorem fz_l : ∀ F : Fo, fo_l (fz F) = fo_l F
  | .leaf => rfl
  | .inner z k v a b => by simp only [fz, fo_l, fz_l b]
theorem fz_p : ∀ F : Fo, fo_p (fz F) = fo_p F
  | .leaf => rfl
  | .inner z k v a b => by simp only [fz, fo_p, fz_p a, fz_p b]
theorem fz_ap : ∀ A B : Fo, fz (fo_ap A B) = fo_ap (fz A) (fz B)
  | .leaf, _ => rfl
  | .inner z k v a b, B => by simp only [fo_ap, fz, fz_ap b B]
theorem fz_h (F : Fo) : fz (fo_h F) = fo_h (fz F) := by
  match F with
  | .leaf => rfl
  | .inner z k v a b => rfl
theorem fz_u (F : Fo) : fz (fo_u F) = fo_u (fz F) := by
  match F with
  | .leaf => rfl
  | .inner z k v a b => rfl
theorem fz_fnum (F : Fo) : fnum (fz F) = fnum F := by
  match F with
  | .leaf => rfl
  | .inner z k v a .leaf => rfl
  | .inner z k v a (.inner _ _ _ _ _) => rfl
theorem fz_calm (F : Fo) : fcalm (fz F) = fcalm F := by unfold fcalm; rw [fz_p]
theorem fz_std (v : Int32) (F : Fo) : fstd v (fz F) = fstd v F := by unfold fstd; rw [fz_p]
theorem fz_fnd (x : Int32) : fz (fnd x) = fnd x := rfl
theorem cmb_fz (ρ : RHO) (z : Nat) (k v : Int32) (K : Fo) : fz (cmb ρ z k v K) = cmb ρ 0 k v (fz K) := by
  have e : fz (.inner z k v K .leaf) = .inner 0 k v (fz K) .leaf := rfl
  unfold cmb
  rw [← fz_h, ← fz_u, ← fz_u, ← fz_h, ← fz_h, fz_fnum, fz_fnum, fz_calm, fz_std]
  split
  · exact e
  split
  · split
    · rfl
    · exact e
  split
  · split
    · split <;> rfl
    · exact e
  split
  · split
    · rfl
    · exact e
  split
  · split
    · rfl
    · exact e
  split
  · split
    · rfl
    · exact e
  split
  · split
    · split
      · exact e
      · rfl
    · exact e
  · exact e
theorem rnx_fz {ρ : RHO} {pk pv : Int32} {i : Nat} {T T' : Fo} (h : fz T = fz T') : rnx ρ pk pv i T = rnx ρ pk pv i T' := by
  unfold rnx
  rw [← fz_fnum T, h, fz_fnum]
theorem fo_v_fz {n : Nat} {par : Int32 → Nat} {C : Int32 → Int32 → Prop} : ∀ F : Fo, fo_v n par C (fz F) ↔ fo_v n par C F
  | .leaf => Iff.rfl
  | .inner z k v a b => by
    simp only [fz, fo_v, fz_l, fo_v_fz a, fo_v_fz b]
theorem fo_v_eq {n : Nat} {par : Int32 → Nat} {C : Int32 → Int32 → Prop} {F F' : Fo} (h : fz F = fz F') (hv : fo_v n par C F) : fo_v n par C F' := (fo_v_fz F').mp (by rw [← h]; exact (fo_v_fz F).mpr hv)
theorem zr_l : ∀ F : Fo, (zr F).length = fo_l F
  | .leaf => rfl
  | .inner z k v a b => by simp only [zr, fo_l, List.length_cons, zr_l b]
theorem zq_l : ∀ F : Fo, (zq F).length = fo_n F
  | .leaf => rfl
  | .inner z k v a b => by
    simp only [zq, fo_n, List.length_append, List.length_cons, zq_l a, zq_l b]
    omega
theorem zr_sub : ∀ (F : Fo), ∀ q ∈ zr F, q ∈ zq F
  | .leaf, _, h => h
  | .inner z k v a b, q, h => by
    rcases List.mem_cons.mp h with h | h
    · exact List.mem_append.mpr (Or.inr (by rw [h]; exact List.mem_cons_self ..))
    · exact List.mem_append.mpr (Or.inr (List.mem_cons_of_mem _ (zr_sub b q h)))
theorem zr_ap : ∀ A B : Fo, zr (fo_ap A B) = zr A ++ zr B
  | .leaf, _ => rfl
  | .inner z k v a b, B => by simp only [fo_ap, zr, zr_ap b B, List.cons_append]
theorem zq_ap : ∀ A B : Fo, zq (fo_ap A B) = zq A ++ zq B
  | .leaf, _ => rfl
  | .inner z k v a b, B => by simp only [fo_ap, zq, zq_ap b B, List.append_assoc, List.cons_append]
theorem rpd_ap {L : List ND} {G : List Int32} : ∀ A B : Fo, rpd L G A → rpd L G B → rpd L G (fo_ap A B)
  | .leaf, _, _, h => h
  | .inner z k v a b, B, h, hB => ⟨h.1, h.2.1, rpd_ap b B h.2.2 hB⟩
theorem cmo_ap {cm : Nat → Bool} : ∀ A B : Fo, cmo cm A → cmo cm B → cmo cm (fo_ap A B)
  | .leaf, _, _, h => h
  | .inner z k v a b, B, h, hB => ⟨h.1, cmo_ap b B h.2 hB⟩
theorem rpd_h {L : List ND} {G : List Int32} {K : Fo} (h : rpd L G K) : rpd L G (fo_h K) ∧ rpd L G (fo_u K) := by
  match K, h with
  | .leaf, _ => exact ⟨trivial, trivial⟩
  | .inner z k v a b, h => exact ⟨⟨h.1, h.2.1, trivial⟩, h.2.2⟩
theorem zr_h {K : Fo} : zr (fo_h K) = (zr K).take 1 ∧ zr (fo_u K) = (zr K).drop 1 := by
  match K with
  | .leaf => exact ⟨rfl, rfl⟩
  | .inner z k v a b => exact ⟨rfl, rfl⟩
theorem zq_h (K : Fo) : zq (fo_h K) ++ zq (fo_u K) = zq K := by
  match K with
  | .leaf => rfl
  | .inner z k v a b => simp [fo_h, fo_u, zq]
theorem cmo_h {cm : Nat → Bool} {K : Fo} (h : cmo cm K) : cmo cm (fo_h K) ∧ cmo cm (fo_u K) := by
  match K, h with
  | .leaf, _ => exact ⟨trivial, trivial⟩
  | .inner z k v a b, h => exact ⟨⟨h.1, trivial⟩, h.2⟩
theorem rpd_mo {L X : List ND} {G Y : List Int32} : ∀ F : Fo, rpd L G F → (∀ q ∈ zq F, q < L.length) → rpd (L ++ X) (G ++ Y) F
  | .leaf, _, _ => trivial
  | .inner z k v a b, h, hq => by
    have hqa : ∀ q ∈ zq a, q < L.length := fun q hq' => hq q (List.mem_append.mpr (Or.inl hq'))
    have hqb : ∀ q ∈ zq b, q < L.length := fun q hq' => hq q (List.mem_append.mpr (Or.inr (List.mem_cons_of_mem _ hq')))
    have hqz : z < L.length := hq z (List.mem_append.mpr (Or.inr (List.mem_cons_self ..)))
    refine ⟨rpd_mo a h.1 hqa, ?_, rpd_mo b h.2.2 hqb⟩
    refine fo_k_cg h.2.1 ?_ (fun i hi => ?_) (by rw [List.length_append]; omega)
    · unfold nK nA nBb nC
      rw [List.getElem?_append_left hqz]
      exact ⟨rfl, rfl, rfl, rfl⟩
    · unfold aG
      rw [List.getElem?_append_left hi]
theorem cmo_cg {cm cm' : Nat → Bool} : ∀ F : Fo, cmo cm F → (∀ q ∈ zr F, cm' q = cm q) → cmo cm' F
  | .leaf, _, _ => trivial
  | .inner z k v a b, h, hq => ⟨by rw [hq z (List.mem_cons_self ..)]; exact h.1, cmo_cg b h.2 (fun q hq' => hq q (List.mem_cons_of_mem _ hq'))⟩
/-- a variable stands in it where a node of its row says so -/
theorem rpd_std {L : List ND} {G : List Int32} {v : Int32} : ∀ F : Fo, rpd L G F → ((∃ i ∈ zq F, nK L i = 2 ∧ nA L i = v) ↔ (2, v) ∈ fo_p F)
  | .leaf, _ => ⟨(fun ⟨i, hi, _⟩ => by cases hi), (fun h => by cases h)⟩
  | .inner z k w a b, h => by
    have ia := rpd_std (v := v) a h.1
    have ib := rpd_std (v := v) b h.2.2
    have ep : fo_p (.inner z k w a b) = (k, w) :: (fo_p a ++ fo_p b) := rfl
    have eq : zq (.inner z k w a b) = zq a ++ z :: zq b := rfl
    have hk : nK L z = k := h.2.1.1
    have hv : k = 2 → nA L z = w := fun c => h.2.1.2.1 (Or.inr c)
    rw [ep, eq]
    constructor
    · rintro ⟨i, hi, h1, h2⟩
      rcases List.mem_append.mp hi with hi | hi
      · exact List.mem_cons_of_mem _ (List.mem_append.mpr (Or.inl (ia.mp ⟨i, hi, h1, h2⟩)))
      · rcases List.mem_cons.mp hi with hi | hi
        · rw [hi, hk] at h1
          rw [hi, hv h1] at h2
          rw [h1, h2]
          exact List.mem_cons_self ..
        · exact List.mem_cons_of_mem _ (List.mem_append.mpr (Or.inr (ib.mp ⟨i, hi, h1, h2⟩)))
    · intro hm
      rcases List.mem_cons.mp hm with hm | hm
      · have e1 : k = 2 := (congrArg (·.1) hm).symm
        have e2 : w = v := (congrArg (·.2) hm).symm
        exact ⟨z, List.mem_append.mpr (Or.inr (List.mem_cons_self ..)), by rw [hk, e1], by rw [hv e1, e2]⟩
      · rcases List.mem_append.mp hm with hm | hm
        · obtain ⟨i, hi, h1, h2⟩ := ia.mpr hm
          exact ⟨i, List.mem_append.mpr (Or.inl hi), h1, h2⟩
        · obtain ⟨i, hi, h1, h2⟩ := ib.mpr hm
          exact ⟨i, List.mem_append.mpr (Or.inr (List.mem_cons_of_mem _ hi)), h1, h2⟩
