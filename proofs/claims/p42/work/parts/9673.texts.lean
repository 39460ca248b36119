/-! the law's texts are words that follow one another -/
def fb (l : List It) (b : Int32) : Int32 := (spl l).getD 0 b
def oSe : List It → Int32 → Prop
  | [], _ => True
  | x :: l, b => (isBl x ∨ (GK x ∧ nextOK x.1 (fb l b))) ∧ oSe l b
theorem oSe_I : ∀ l : List It, oSe l (-1) → okI l := by
  intro l
  induction l with
  | nil => intro _; trivial
  | cons x l ih => intro h; exact ⟨h.1, ih h.2⟩
theorem fb_app {a c : List It} {b : Int32} : fb (a ++ c) b = fb a (fb c b) := by
  unfold fb
  rw [spl_app]
  cases e : spl a with
  | nil => rfl
  | cons y l => rfl
theorem oSe.app : ∀ (a c : List It) (b : Int32), oSe a (fb c b) → oSe c b → oSe (a ++ c) b := by
  intro a
  induction a with
  | nil => intro c b _ h; exact h
  | cons x l ih =>
    intro c b h h'
    refine ⟨?_, ih c b h.2 h'⟩
    show isBl x ∨ (GK x ∧ nextOK x.1 (fb (l ++ c) b))
    rw [fb_app]
    exact h.1
def endB (b : Int32) : Prop := letV b = 0 ∧ digV b = 0
theorem oe_kw {s : Nat} {b : Int32} (h : s < 26) (hb : endB b) : isBl (tok (128 + s)) ∨ (GK (tok (128 + s)) ∧ nextOK (tok (128 + s)).1 b) := by
  have e : tok (128 + s) = (128 + s, sB s) := by
    unfold tok
    rw [if_pos (Nat.le_add_right _ _), Nat.add_sub_cancel_left]
  rw [e]
  exact Or.inr ⟨Or.inl ⟨s, h, rfl⟩, fun _ => hb, fun z => by
    have z : 128 + s = 60 ∨ 128 + s = 62 := z
    omega⟩
theorem oe_nm {n : Nat} {b : Int32} (h : n < 10) (hb : endB b) : isBl (nmI n) ∨ (GK (nmI n) ∧ nextOK (nmI n).1 b) := Or.inr ⟨Or.inr (Or.inl ⟨n, h, rfl⟩), fun _ => hb, fun z => by rcases z with z | z <;> cases z⟩
theorem oe_num {n : Nat} {b : Int32} (h : n < 1000000) (hb : endB b) : isBl (numI n) ∨ (GK (numI n) ∧ nextOK (numI n).1 b) := Or.inr ⟨Or.inr (Or.inr (Or.inr (Or.inr (Or.inl ⟨n, h, rfl⟩)))), fun _ => hb, fun z => by rcases z with z | z <;> cases z⟩
def symOK (k : Nat) : Bool := symL.contains k && !(k == 60 || k == 62) && decide (k < 128) && !(k == 4) && !(k == 5) && !(k == 2) && !(k == 3)
theorem oe_sym {k : Nat} {b : Int32} (h : symOK k = true) (hk : k ∈ symL) (e : tok k = (k, [nI k])) (hw : ¬ isW k) (hn : ¬ (k = 60 ∨ k = 62)) : isBl (tok k) ∨ (GK (tok k) ∧ nextOK (tok k).1 b) := by
  rw [e]
  exact Or.inr ⟨Or.inr (Or.inr (Or.inr (Or.inr (Or.inr (Or.inl ⟨k, hk, rfl⟩))))), fun z => absurd z hw, fun z => absurd z hn⟩
theorem oe_lt {k : Nat} {b : Int32} (h : k = 60 ∨ k = 62) (hb : b ≠ 61) : isBl (tok k) ∨ (GK (tok k) ∧ nextOK (tok k).1 b) := by
  rcases h with rfl | rfl
  · exact Or.inr ⟨Or.inr (Or.inr (Or.inr (Or.inr (Or.inr (Or.inl ⟨60, by decide, rfl⟩))))), fun z => by
      have z : isW 60 := z
      unfold isW at z; omega, fun _ => hb⟩
  · exact Or.inr ⟨Or.inr (Or.inr (Or.inr (Or.inr (Or.inr (Or.inl ⟨62, by decide, rfl⟩))))), fun z => by
      have z : isW 62 := z
      unfold isW at z; omega, fun _ => hb⟩
theorem oe_4 {b : Int32} : isBl (tok 4) ∨ (GK (tok 4) ∧ nextOK (tok 4).1 b) := Or.inr ⟨Or.inr (Or.inr (Or.inr (Or.inr (Or.inr (Or.inr (Or.inl rfl)))))), fun z => by
    have z : isW 4 := z
    unfold isW at z; omega, fun z => by rcases z with z | z <;> cases z⟩
theorem oe_5 {b : Int32} : isBl (tok 5) ∨ (GK (tok 5) ∧ nextOK (tok 5).1 b) := Or.inr ⟨Or.inr (Or.inr (Or.inr (Or.inr (Or.inr (Or.inr (Or.inr rfl)))))), fun z => by
    have z : isW 5 := z
    unfold isW at z; omega, fun z => by rcases z with z | z <;> cases z⟩
theorem oe_bl : isBl bl := ⟨rfl, Or.inl rfl⟩
theorem oe_nl : isBl nl := ⟨rfl, Or.inr rfl⟩
theorem oe_s {k : Nat} {b : Int32} (h : k = 40 ∨ k = 41 ∨ k = 91 ∨ k = 93 ∨ k = 59 ∨ k = 44 ∨ k = 43 ∨ k = 45 ∨ k = 42 ∨ k = 47 ∨ k = 61) : isBl (tok k) ∨ (GK (tok k) ∧ nextOK (tok k).1 b) := by
  rcases h with rfl | rfl | rfl | rfl | rfl | rfl | rfl | rfl | rfl | rfl | rfl <;> exact oe_sym rfl (by decide) rfl (by unfold isW; omega) (by decide)
theorem dec_ne61 : ∀ f n (x : Int32), x ∈ decF f n → x ≠ 61 := by
  intro f
  induction f with
  | zero => intro n x h; cases h
  | succ f ih =>
    intro n x h
    have h : x ∈ (if n < 10 then [nI (48 + n)] else decF f (n / 10) ++ [nI (48 + n % 10)]) := h
    by_cases e : n < 10
    · rw [if_pos e] at h
      rw [List.mem_singleton.mp h]
      intro z
      have := nI_inj (a := 48 + n) (b := 61) (by omega) (by omega) z
      omega
    · rw [if_neg e, List.mem_append] at h
      rcases h with h | h
      · exact ih _ x h
      · rw [List.mem_singleton.mp h]
        intro z
        have := nI_inj (a := 48 + n % 10) (b := 61) (by omega) (by omega) z
        omega
theorem dc_ne61 {n : Nat} (h : n < 1000000) (b : Int32) : (dc n).getD 0 b ≠ 61 := by
  have hl := (dc_len h).1
  have e : (dc n).getD 0 b = (dc n)[0]'(by omega) := by
    rw [List.getD_eq_getElem?_getD, List.getElem?_eq_getElem (by omega)]
    rfl
  rw [e]
  exact dec_ne61 7 n _ (List.getElem_mem _)
def hd61 (w : List Int32) : Bool := match w with
  | y :: _ => decide (y ≠ 61)
  | [] => false
theorem kw61_all : ((List.range 26).all fun s => hd61 (sB s)) = true := by decide +kernel
theorem hd61_ok : ∀ (w X : List Int32) (b : Int32), hd61 w = true → (w ++ X).getD 0 b ≠ 61 := by
  intro w X b h
  cases w with
  | nil => cases h
  | cons y l => exact of_decide_eq_true h
theorem kw61 {s : Nat} {X : List Int32} {b : Int32} (h : s < 26) : (sB s ++ X).getD 0 b ≠ 61 := hd61_ok _ X b (List.all_eq_true.mp kw61_all s (List.mem_range.mpr h))
theorem PX.oe {N : Nat} (hN : N ≤ 10) : ∀ d c l i, PX N d c l i → (∀ b, endB b → oSe i b) ∧ (c = false → ∀ b, fb i b ≠ 61) := by
  intro d
  induction d with
  | zero => intro c l i h; exact h.elim
  | succ d ih =>
    intro c l i h
    obtain ⟨s, ⟨hf, n, h1, -, h3, rfl⟩ | ⟨hf, l1, i1, ht, -, rfl⟩ | ⟨hf, l1, l2, i1, i2, ht, hu, -, rfl⟩⟩ := h
    · have hn := leaf_n hN hf h1 h3
      have hsv : s = 0 ∨ s = 1 ∨ s = 2 ∨ s = 3 ∨ s = 4 ∨ s = 5 ∨ s = 6 ∨ s = 7 ∨ s = 8 ∨ s = 21 ∨ s = 22 := by
        have hf2 := hf
        unfold isLf at hf2
        rcases hf2 with ⟨-, z⟩ | ⟨-, z⟩ <;> omega
      have e32 : endB 32 := ⟨rfl, rfl⟩
      have hdc : ∀ b, (dc n).getD 0 b ≠ 61 := fun b => dc_ne61 h1 b
      rcases hsv with rfl | rfl | rfl | rfl | rfl | rfl | rfl | rfl | rfl | rfl | rfl
      · exact ⟨fun b hb => ⟨oe_num h1 hb, trivial⟩, fun _ b => by
          show ((dc n) ++ []).getD 0 b ≠ 61
          rw [List.append_nil]; exact hdc b⟩
      · exact ⟨fun b hb => ⟨oe_kw (s := 12) (by decide) hb, trivial⟩, fun _ b => kw61 (s := 12) (by decide)⟩
      · exact ⟨fun b hb => ⟨oe_kw (s := 13) (by decide) hb, trivial⟩, fun _ b => kw61 (s := 13) (by decide)⟩
      · exact ⟨fun b hb => ⟨oe_kw (s := 14) (by decide) hb, trivial⟩, fun _ b => kw61 (s := 14) (by decide)⟩
      · exact ⟨fun b hb => ⟨oe_kw (s := 2) (by decide) e32, Or.inl oe_bl, oe_kw (s := 18) (by decide) e32, Or.inl oe_bl, oe_nm (by have := hn (by decide) (by decide); omega) hb, trivial⟩, fun _ b => kw61 (s := 2) (by decide)⟩
      · exact ⟨fun b hb => ⟨oe_kw (s := 1) (by decide) e32, Or.inl oe_bl, oe_kw (s := 18) (by decide) e32, Or.inl oe_bl, oe_nm (by have := hn (by decide) (by decide); omega) hb, trivial⟩, fun _ b => kw61 (s := 1) (by decide)⟩
      · exact ⟨fun b hb => ⟨oe_kw (s := 17) (by decide) e32, Or.inl oe_bl, oe_kw (s := 18) (by decide) e32, Or.inl oe_bl, oe_nm (by have := hn (by decide) (by decide); omega) hb, trivial⟩, fun _ b => kw61 (s := 17) (by decide)⟩
      · exact ⟨fun b hb => ⟨oe_kw (s := 15) (by decide) e32, Or.inl oe_bl, oe_kw (s := 18) (by decide) e32, Or.inl oe_bl, oe_nm (by have := hn (by decide) (by decide); omega) hb, trivial⟩, fun _ b => kw61 (s := 15) (by decide)⟩
      · exact ⟨fun b hb => ⟨oe_kw (s := 16) (by decide) e32, Or.inl oe_bl, oe_kw (s := 18) (by decide) e32, Or.inl oe_bl, oe_nm (by have := hn (by decide) (by decide); omega) hb, trivial⟩, fun _ b => kw61 (s := 16) (by decide)⟩
      · refine ⟨fun b hb => ⟨oe_kw (s := 19) (by decide) hb, trivial⟩, fun z => ?_⟩
        unfold isLf at hf; rcases hf with ⟨-, y⟩ | ⟨y, -⟩
        · omega
        · rw [y] at z; cases z
      · refine ⟨fun b hb => ⟨oe_kw (s := 20) (by decide) e32, Or.inl oe_bl, oe_nm (by have := hn (by decide) (by decide); omega) hb, trivial⟩, fun z => ?_⟩
        unfold isLf at hf; rcases hf with ⟨-, y⟩ | ⟨y, -⟩
        · omega
        · rw [y] at z; cases z
    · have hs : (c = false ∧ s = 9) ∨ (c = true ∧ s = 23) := hf
      obtain ⟨a1, a2⟩ := ih _ _ _ ht
      rcases hs with ⟨rfl, rfl⟩ | ⟨rfl, rfl⟩
      · exact ⟨fun b hb => oSe.app [tok 45] i1 b ⟨oe_s (by decide), trivial⟩ (a1 b hb), fun _ b => by show (45 : Int32) ≠ 61; decide⟩
      · exact ⟨fun b hb => oSe.app [tok 149, bl] i1 b ⟨oe_kw (s := 21) (by decide) ⟨rfl, rfl⟩, Or.inl oe_bl, trivial⟩ (a1 b hb), fun z => by cases z⟩
    · obtain ⟨a1, a2⟩ := ih _ _ _ ht
      obtain ⟨b1, b2⟩ := ih _ _ _ hu
      have go : ∀ b L M' R, biL s = L → biM s = M' → biR s = R → endB b → (∀ x, oSe L x) → endB (fb (M' ++ (i2 ++ R)) b) → oSe M' (fb (i2 ++ R) b) → oSe R b → endB (fb R b) → oSe (biL s ++ (i1 ++ (biM s ++ (i2 ++ biR s)))) b := by
        intro b L M' R e1 e2 e3 hb hL h1 hM hR h2
        rw [e1, e2, e3]
        exact oSe.app _ _ _ (hL _) (oSe.app _ _ _ (a1 _ h1) (oSe.app _ _ _ hM (oSe.app _ _ _ (b1 _ h2) hR)))
      have hs : (c = false ∧ (s = 10 ∨ s = 11 ∨ s = 12 ∨ s = 13 ∨ s = 14 ∨ s = 15)) ∨ (c = true ∧ (s = 16 ∨ s = 17 ∨ s = 18 ∨ s = 19 ∨ s = 20 ∨ s = 24 ∨ s = 25)) := by
        unfold isBi at hf
        rcases hf with ⟨y, z⟩ | ⟨y, z⟩
        · exact Or.inl ⟨y, by omega⟩
        · exact Or.inr ⟨y, by omega⟩
      have r41 : ∀ b, oSe [tok 41] b := fun b => ⟨oe_s (by decide), trivial⟩
      have r93 : ∀ b, oSe [tok 93] b := fun b => ⟨oe_s (by decide), trivial⟩
      have l40 : ∀ b, oSe [tok 40] b := fun b => ⟨oe_s (by decide), trivial⟩
      have l91 : ∀ b, oSe [tok 91] b := fun b => ⟨oe_s (by decide), trivial⟩
      rcases hs with ⟨rfl, rfl | rfl | rfl | rfl | rfl | rfl⟩ | ⟨rfl, rfl | rfl | rfl | rfl | rfl | rfl | rfl⟩
      · exact ⟨fun b hb => go b [tok 152, tok 40] [tok 44] [tok 41] rfl rfl rfl hb (fun x => ⟨oe_kw (s := 24) (by decide) ⟨rfl, rfl⟩, oe_s (by decide), trivial⟩) ⟨rfl, rfl⟩ ⟨oe_s (by decide), trivial⟩ (r41 b) ⟨rfl, rfl⟩, fun _ b => kw61 (s := 24) (by decide)⟩
      · exact ⟨fun b hb => go b [tok 153, tok 40] [bl, tok 44, bl] [tok 41] rfl rfl rfl hb (fun x => ⟨oe_kw (s := 25) (by decide) ⟨rfl, rfl⟩, oe_s (by decide), trivial⟩) ⟨rfl, rfl⟩ ⟨Or.inl oe_bl, oe_s (by decide), Or.inl oe_bl, trivial⟩ (r41 b) ⟨rfl, rfl⟩, fun _ b => kw61 (s := 25) (by decide)⟩
      · exact ⟨fun b hb => go b [tok 40] [tok 43] [tok 41] rfl rfl rfl hb l40 ⟨rfl, rfl⟩ ⟨oe_s (by decide), trivial⟩ (r41 b) ⟨rfl, rfl⟩, fun _ b => by show (40 : Int32) ≠ 61; decide⟩
      · exact ⟨fun b hb => go b [tok 40] [tok 45] [tok 41] rfl rfl rfl hb l40 ⟨rfl, rfl⟩ ⟨oe_s (by decide), trivial⟩ (r41 b) ⟨rfl, rfl⟩, fun _ b => by show (40 : Int32) ≠ 61; decide⟩
      · exact ⟨fun b hb => go b [tok 40] [tok 42] [tok 41] rfl rfl rfl hb l40 ⟨rfl, rfl⟩ ⟨oe_s (by decide), trivial⟩ (r41 b) ⟨rfl, rfl⟩, fun _ b => by show (40 : Int32) ≠ 61; decide⟩
      · exact ⟨fun b hb => go b [tok 40] [tok 47] [tok 41] rfl rfl rfl hb l40 ⟨rfl, rfl⟩ ⟨oe_s (by decide), trivial⟩ (r41 b) ⟨rfl, rfl⟩, fun _ b => by show (40 : Int32) ≠ 61; decide⟩
      · exact ⟨fun b hb => go b [] [tok 60] [] rfl rfl rfl hb (fun _ => trivial) ⟨rfl, rfl⟩ ⟨oe_lt (Or.inl rfl) (by rw [fb_app]; exact b2 rfl _), trivial⟩ trivial hb, fun z => by cases z⟩
      · exact ⟨fun b hb => go b [] [tok 62] [] rfl rfl rfl hb (fun _ => trivial) ⟨rfl, rfl⟩ ⟨oe_lt (Or.inr rfl) (by rw [fb_app]; exact b2 rfl _), trivial⟩ trivial hb, fun z => by cases z⟩
      · exact ⟨fun b hb => go b [] [tok 61] [] rfl rfl rfl hb (fun _ => trivial) ⟨rfl, rfl⟩ ⟨oe_s (by decide), trivial⟩ trivial hb, fun z => by cases z⟩
      · exact ⟨fun b hb => go b [] [tok 4] [] rfl rfl rfl hb (fun _ => trivial) ⟨rfl, rfl⟩ ⟨oe_4, trivial⟩ trivial hb, fun z => by cases z⟩
      · exact ⟨fun b hb => go b [] [tok 5] [] rfl rfl rfl hb (fun _ => trivial) ⟨rfl, rfl⟩ ⟨oe_5, trivial⟩ trivial hb, fun z => by cases z⟩
      · exact ⟨fun b hb => go b [tok 91] [bl, tok 150, bl] [tok 93] rfl rfl rfl hb l91 ⟨rfl, rfl⟩ ⟨Or.inl oe_bl, oe_kw (s := 22) (by decide) ⟨rfl, rfl⟩, Or.inl oe_bl, trivial⟩ (r93 b) ⟨rfl, rfl⟩, fun z => by cases z⟩
      · exact ⟨fun b hb => go b [tok 91] [bl, tok 151, bl] [tok 93] rfl rfl rfl hb l91 ⟨rfl, rfl⟩ ⟨Or.inl oe_bl, oe_kw (s := 23) (by decide) ⟨rfl, rfl⟩, Or.inl oe_bl, trivial⟩ (r93 b) ⟨rfl, rfl⟩, fun z => by cases z⟩
