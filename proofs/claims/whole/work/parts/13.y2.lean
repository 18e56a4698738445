/-! the reference: prepare, order, follow -/
theorem jp_FM14 : ∀ m, m < 6 → 1 ≤ m → (jo_FM m).length ≤ 14 := by decide +kernel
theorem jp_FM0 : ∀ m, m < 6 → 1 ≤ m → 1 ≤ (jo_FM m).length := by decide +kernel
theorem jp_FM512 : ∀ m, m < 6 → 1 ≤ m → ∀ k, k < 14 → (jo_FM m).getD k 0 < 512 := by decide +kernel
theorem jp_flen (m : Nat) : ∀ d n, (jo_fl m n).length ≤ (jo_fl m (n + d)).length := by
  intro d
  induction d with
  | zero => intro n; exact Nat.le_refl _
  | succ d ih =>
    intro n
    refine Nat.le_trans (ih n) ?_
    rw [← Nat.add_assoc, jo_fl]
    split
    · rw [List.length_append]; exact Nat.le_add_right _ _
    · exact Nat.le_refl _
/-- the forms that prepare has found -/
def jo_Fm (l : List Nat) (ym : Nat → Int32) : Prop := ∀ k, k < l.length → ym k = nI (l.getD k 0)
theorem jp_Fm_add {l : List Nat} {ym : Nat → Int32} {x : Nat} (h : jo_Fm l ym) : jo_Fm (l ++ [x]) (upd ym l.length (nI x)) := by
  intro k hk
  rw [List.length_append] at hk
  by_cases e : k = l.length
  · subst e
    rw [pk_us, List.getD_eq_getElem?_getD, List.getElem?_append_right (Nat.le_refl _)]
    simp
  · have hk' : k < l.length := by simp at hk; omega
    rw [pk_un e, h k hk', List.getD_eq_getElem?_getD, List.getD_eq_getElem?_getD, List.getElem?_append_left hk']
section
variable {fn fo ft fk fi : Int32} {yt yf yz ym yr yk : Nat → Int32} {E S : Nat → Nat} {K : Nat → Bool}
theorem jp_96 {m : Nat} (m1 : 1 ≤ m) (m5 : m ≤ 5) {post : Int32 → SY → Prop} (hp : post (nI (jo_fact m)) (fn, fo, ft, fk, fi, yt, yf, yz, ym, yr, yk)) : ∃ n, wY_prepare_96 post (nI m) fn fo ft fk fi yt yf yz ym yr yk n 1 2 := by
  have key : ∀ d i, 1 ≤ i → i + d = m → wY_prepare_96 post (nI m) fn fo ft fk fi yt yf yz ym yr yk (d + 1) (nI (jo_fact i)) (nI (i + 1)) := by
    intro d
    induction d with
    | zero =>
      intro i i1 hi
      obtain rfl : i = m := by omega
      exact br_t (nI_lt (by omega) (by omega)) hp
    | succ d ih =>
      intro i i1 hi
      exact br_f (nI_nlt (by omega) (by omega)) (nm_r (pk_mul _ _) (nm_r (nI_1 _) (ih (i + 1) (by omega) (by omega))))
  exact ⟨_, key (m - 1) 1 (Nat.le_refl _) (by omega)⟩
theorem jp_38 {m : Nat} (m1 : 1 ≤ m) (m5 : m ≤ 5) {post : Int32 → SY → Prop} (hp : ∀ ym', jo_Fm (jo_FM m) ym' → post (nI (jo_fact m)) (nI (jo_FM m).length, fo, ft, fk, fi, yt, yf, yz, ym', yr, yk)) :
    ∃ n, wY_prepare_38 post (nI m) fo ft fk fi n 0 0 yt yf yz ym yr yk := by
  have e2 : ((1 : Int32) <<< (((2 : Int32) * nI m - 1) &&& 31)) = nI (2 ^ (2 * m - 1)) := by rw [jy_2m m1, jb_shl _ (by omega)]
  have hpw : 2 ^ (2 * m - 1) ≤ 2 ^ 9 := Nat.pow_le_pow_right (by omega) (by omega)
  have key : ∀ d f ym, f + d = 512 → jo_Fm (jo_fl m f) ym → wY_prepare_38 post (nI m) fo ft fk fi (d + 1) (nI f) (nI (jo_fl m f).length) yt yf yz ym yr yk := by
    intro d
    induction d with
    | zero =>
      intro f ym hf hym
      obtain rfl : f = 512 := by omega
      rw [jo_fl_ok m (by omega) m1] at hym ⊢
      exact br_t (nI_le (a := 512) (Nat.le_refl _) (by omega)) (jp_96 m1 m5 (hp ym hym))
    | succ d ih =>
      intro f ym hf hym
      have next : jo_frm m f = false → wY_prepare_38 post (nI m) fo ft fk fi (d + 1) (nI (f + 1)) (nI (jo_fl m f).length) yt yf yz ym yr yk := by
        intro h
        have := ih (f + 1) ym (by omega) (by rw [jo_fl, h]; exact hym)
        rw [jo_fl, h] at this
        exact this
      refine br_f (nI_ge (b := 512) (by omega) (by omega)) ?_
      refine pk_le (2 ^ (2 * m - 1)) f (fun hle => nm_r (nI_1 f) (next ?_)) (fun hlt => jy_isForm (by omega) m1 m5 (fun h => jx_r0 (nm_r (nI_1 f) (next ?_))) (fun h => jx_r1 ?_)) e2 rfl (by omega) (by omega)
      · rw [jo_frm, if_pos (Nat.ble_eq_true_of_le hle)]
      · rw [jo_frm, if_neg (fun q => absurd (Nat.le_of_ble_eq_true q) (by omega))]; exact h
      · have hfr : jo_frm m f = true := by
          rw [jo_frm, if_neg (fun q => absurd (Nat.le_of_ble_eq_true q) (by omega))]; exact h
        have hl : (jo_fl m (f + 1)).length = (jo_fl m f).length + 1 := by
          rw [jo_fl, if_pos hfr, List.length_append]; rfl
        have h14 : (jo_fl m (f + 1)).length ≤ 14 := by
          refine Nat.le_trans (jp_flen m d (f + 1)) ?_
          rw [show f + 1 + d = 512 from by omega, jo_fl_ok m (by omega) m1]
          exact jp_FM14 m (by omega) m1
        have hi1 := ih (f + 1) (upd ym (jo_fl m f).length (nI f)) (by omega) (by rw [jo_fl, if_pos hfr]; exact jp_Fm_add hym)
        rw [hl] at hi1
        refine ⟨vp_in_nI (by omega) (by omega), nm_r ?_ (nm_r (nI_1 _) (nm_r (nI_1 f) hi1))⟩
        rw [nI_clamp (by omega)]
  exact ⟨_, key 512 0 ym (by omega) (fun k hk => by exact absurd hk (Nat.not_lt_zero k))⟩
theorem jp_prepare (hE : ∀ i, i < 5 → E i ≤ 6) (hS : ∀ p, p < 25 → S p ≤ 6) (hT : jo_YT E yt) (hF : jo_YF S K yf) {s : Nat} (h1 : 1 ≤ s) (hs : s < 32) {post : Int32 → SY → Prop}
    (hp : ∀ yz' ym', (∀ t, t < 32 → yz' t = nI (jo_sz E S t)) → jo_Fm (jo_FM (jo_m s)) ym' → post (nI (jo_fact (jo_m s))) (nI (jo_fc s), fo, ft, fk, fi, yt, yf, yz', ym', yr, yk)) : wpY_prepare post (fn, fo, ft, fk, fi, yt, yf, yz, ym, yr, yk) (nI s) := by
  have key : ∀ d t yz, t + d = 32 → (∀ a, a < t → yz a = nI (jo_sz E S a)) → wY_prepare_2 post (nI s) fn fo ft fk fi (d + 1) (nI t) yt yf yz ym yr yk := by
    intro d
    induction d with
    | zero =>
      intro t yz ht hz
      obtain rfl : t = 32 := by omega
      exact br_t (nI_le (a := 32) (Nat.le_refl _) (by omega)) (jy_count hs (jp_38 (js_m1 s hs h1) (js_m5 s hs) (fun ym' hm => hp yz ym' hz hm)))
    | succ d ih =>
      intro t yz ht hz
      refine br_f (nI_ge (b := 32) (by omega) (by omega)) (jy_sizeOf hE hS hT hF (by omega) ⟨vp_in_nI (by omega) (by omega), nm_r (e' := upd yz t (nI (jo_sz E S t))) ?_ (nm_r (nI_1 t) (ih (t + 1) _ (by omega) (fun a ha => ?_)))⟩)
      · rw [nI_clamp (by omega)]
      · by_cases e : a = t
        · subst e; exact pk_us
        · rw [pk_un e]; exact hz a (by omega)
  exact ⟨_, key 32 0 yz (by omega) (fun a ha => by omega)⟩
theorem jp_find {left : Nat} (hl : left < 32) : ∀ n sk t r, t + n ≤ 5 → sk < 2 ^ 31 → jo_find left n sk t = some r → r < 5 ∧ jo_hb left r = true ∧
    ∀ {fn fo ft fk fi : Int32} {yt yf yz ym yr yk : Nat → Int32} {post : SY → Prop} {J : Int32 → Int32 → Int32 → Int32 → (Nat → Int32) → (Nat → Int32) → (Nat → Int32) → (Nat → Int32) → (Nat → Int32) → (Nat → Int32) → Prop} {x4 x5 x7 : Int32} {i : Nat}, i < 5 →
      J x4 x5 (nI (left ^^^ 2 ^ r)) (nI (i + 1)) yt yf yz ym (upd yr i (nI r)) yk → wY_order_53 post J x4 x5 (nI left) x7 (nI i) fn fo ft fk fi yt yf yz ym yr yk n (nI sk) (nI t) := by
  intro n
  induction n with
  | zero => intro sk t r ht hsk h; exact nomatch h
  | succ n ih =>
    intro sk t r ht hsk h
    rw [jo_find] at h
    by_cases hb : jo_hb left t = true
    · rw [if_pos hb] at h
      by_cases h0 : sk = 0
      · subst h0
        rw [if_pos (show Nat.beq 0 0 = true from rfl)] at h
        cases h
        refine ⟨by omega, hb, fun {fn fo ft fk fi yt yf yz ym yr yk post J x4 x5 x7 i} hi hJ => ?_⟩
        refine jy_has (fn := fn) (fo := fo) (ft := ft) (fk := fk) (fi := fi) (yt := yt) (yf := yf) (yz := yz) (ym := ym) (yr := yr) (yk := yk) hl (by omega) (fun q => absurd hb (by rw [q]; decide)) (fun _ => br_t (by decide) ⟨vp_in_nI hi (by omega), nm_r ?_ (nm_r (e' := nI (left ^^^ 2 ^ t)) ?_ (nm_r (nI_1 _) hJ))⟩)
        · rw [nI_clamp (by omega)]
        · rw [jb_clr left hl t (by omega), if_pos hb]
      · rw [if_neg (fun q => h0 (Nat.eq_of_beq_eq_true q))] at h
        obtain ⟨r5, rb, H⟩ := ih (sk - 1) (t + 1) r (by omega) (by omega) h
        refine ⟨r5, rb, fun {fn fo ft fk fi yt yf yz ym yr yk post J x4 x5 x7 i} hi hJ => ?_⟩
        refine jy_has (fn := fn) (fo := fo) (ft := ft) (fk := fk) (fi := fi) (yt := yt) (yf := yf) (yz := yz) (ym := ym) (yr := yr) (yk := yk) hl (by omega) (fun q => absurd hb (by rw [q]; decide)) (fun _ => br_f (nI_nle (by omega) hsk) (jy_has (fn := fn) (fo := fo) (ft := ft) (fk := fk) (fi := fi) (yt := yt) (yf := yf) (yz := yz) (ym := ym) (yr := yr) (yk := yk) hl (by omega) (fun q => absurd hb (by rw [q]; decide)) (fun _ => nm_r (e' := nI (sk - 1)) (pk_sub (b := 1) (by omega)) (nm_r (nI_1 t) (H hi hJ)))))
    · rw [if_neg hb] at h
      obtain ⟨r5, rb, H⟩ := ih sk (t + 1) r (by omega) hsk h
      refine ⟨r5, rb, fun {fn fo ft fk fi yt yf yz ym yr yk post J x4 x5 x7 i} hi hJ => ?_⟩
      exact jy_has (fn := fn) (fo := fo) (ft := ft) (fk := fk) (fi := fi) (yt := yt) (yf := yf) (yz := yz) (ym := ym) (yr := yr) (yk := yk) hl (by omega) (fun _ => jy_has (fn := fn) (fo := fo) (ft := ft) (fk := fk) (fi := fi) (yt := yt) (yf := yf) (yz := yz) (ym := ym) (yr := yr) (yk := yk) hl (by omega) (fun _ => nm_r (nI_1 t) (H hi hJ)) (fun q => absurd q hb)) (fun q => absurd q hb)
/-- the row holds this list from a place on -/
def jo_Row (yr : Nat → Int32) : Nat → List Nat → Prop
  | _, [] => True
  | i, t :: l => yr i = nI t ∧ jo_Row yr (i + 1) l
theorem jp_ord : ∀ k rest unit left l, left < 32 → rest < 2 ^ 31 → unit < 2 ^ 31 → jo_ord k rest unit left = some l → l.length = k ∧ (∀ t, t ∈ l → t < 5) ∧
    ∀ {fn fo ft fk fi : Int32} {yt yf yz ym yr yk : Nat → Int32} {post : SY → Prop} {m i : Nat}, i + k = m → m ≤ 5 →
      (∀ yr', (∀ j, j < i → yr' j = yr j) → jo_Row yr' i l → post (fn, fo, ft, fk, fi, yt, yf, yz, ym, yr', yk)) → wY_order_19 post (nI m) fn fo ft fk fi (k + 1) (nI rest) (nI unit) (nI left) (nI i) yt yf yz ym yr yk := by
  intro k
  induction k with
  | zero =>
    intro rest unit left l hl hr hu h
    cases h
    refine ⟨rfl, (fun t ht => nomatch ht), fun hi hm hp => ?_⟩
    exact br_t (nI_le (by omega) (by omega)) (hp _ (fun _ _ => rfl) trivial)
  | succ k ih =>
    intro rest unit left l hl hr hu h
    rw [jo_ord] at h
    by_cases h0 : unit / (k + 1) = 0
    · rw [if_pos (by rw [h0]; rfl)] at h; exact nomatch h
    · rw [if_neg (fun q => h0 (Nat.eq_of_beq_eq_true q))] at h
      have hu0 : 0 < unit / (k + 1) := Nat.pos_of_ne_zero h0
      have hu' : unit / (k + 1) < 2 ^ 31 := Nat.lt_of_le_of_lt (Nat.div_le_self _ _) hu
      have hq : rest / (unit / (k + 1)) < 2 ^ 31 := Nat.lt_of_le_of_lt (Nat.div_le_self _ _) hr
      obtain ⟨r, hf, h⟩ := Option.bind_eq_some_iff.mp h
      obtain ⟨l', ho, h⟩ := Option.bind_eq_some_iff.mp h
      cases h
      obtain ⟨r5, rb, H⟩ := jp_find hl 5 _ 0 r (by omega) hq hf
      obtain ⟨e1, e2, G⟩ := ih _ _ _ l' (jb_xorlt hl (jb_bit r5)) (Nat.lt_of_le_of_lt (Nat.mod_le _ _) hr) hu' ho
      refine ⟨by rw [List.length_cons, e1], fun t ht => ?_, fun {fn fo ft fk fi yt yf yz ym yr yk post m i} hi hm hp => ?_⟩
      · rcases List.mem_cons.mp ht with rfl | ht
        · exact r5
        · exact e2 t ht
      · have e3 : nI m - nI i = nI (k + 1) := by
          rw [pk_sub (by omega)]; congr 1; omega
        refine br_f (nI_ge (by omega) (by omega)) ⟨by rw [e3]; exact nI_ne0 (by omega) (by omega), nm_r (e' := nI (unit / (k + 1))) ?_ ⟨nI_ne0 hu0 hu', nm_r (e' := nI (rest / (unit / (k + 1)))) ?_ ⟨nI_ne0 hu0 hu', nm_r (e' := nI (rest % (unit / (k + 1)))) ?_ ⟨5, H (by omega) (G (by omega) hm ?_)⟩⟩⟩⟩
        · rw [e3, pk_div hu (by omega) (by omega)]
        · rw [pk_div hr hu0 hu']
        · rw [pk_rem hr hu0 hu']
        · intro yr' hk hrow
          refine hp yr' (fun j hj => ?_) ⟨?_, hrow⟩
          · rw [hk j (by omega), pk_un (by omega)]
          · rw [hk i (by omega), pk_us]
/-- the stack, its top first -/
def jo_Stk (yk : Nat → Int32) : List Nat → Prop
  | [] => True
  | x :: st => yk st.length = nI x ∧ jo_Stk yk st
theorem jp_Stk_upd {q : Nat} {v : Int32} : ∀ st, st.length ≤ q → jo_Stk yk st → jo_Stk (upd yk q v) st := by
  intro st
  induction st with
  | nil => intro _ _; trivial
  | cons x st ih =>
    intro h hs
    rw [List.length_cons] at h
    exact ⟨by rw [pk_un (by omega)]; exact hs.1, ih (by omega) hs.2⟩
def jo_bI (b : Bool) : Int32 := if b = true then 1 else 0
def jo_lft (p : List (Nat × Nat)) : Int32 := match p.getLast? with
  | none => -4
  | some x => nI x.1
theorem jp_b (b : Bool) : narrow .boolean (.int (jo_bI b)) = .int (jo_bI b) ∧ fits .boolean (.int (jo_bI b)) = true := jy_b b
theorem jp_bz {b : Bool} {A B : Prop} (f : b = false → A) (t : b = true → B) : (jo_bI b = 0 → A) ∧ (¬ jo_bI b = 0 → B) := by
  cases b with
  | false => exact br_t rfl (f rfl)
  | true => exact br_f (by decide) (t rfl)
theorem jp_148 {m l r : Nat} (hl : l < 32) (hr : r < 32) {post : SY → Prop} {J : Int32 → Int32 → Int32 → Int32 → Int32 → Int32 → Int32 → (Nat → Int32) → (Nat → Int32) → (Nat → Int32) → (Nat → Int32) → (Nat → Int32) → (Nat → Int32) → Prop} {x1 x2 x4 : Int32} {q i c : Nat} {b : Bool} {z : Nat → Nat} (hq : q < 5) (hz : ∀ t, t < 32 → yz t = nI (z t))
    (hJ : J (nI (q + 1)) x4 (nI (i + 1)) (nI (c + z (l ||| r))) (nI l) fk (jo_bI b) yt yf yz ym yr (upd yk q (nI (l ||| r)))) :
    wY_follow_148 post J x1 x2 (nI (q + 1)) x4 (nI i) (nI r) (jo_bI b) fn (nI c) (nI l) fk fi yt yf yz ym yr yk := by
  have e1 : nI (q + 1) - 1 = nI q := nI_pred q
  have hlr := jb_orlt hl hr
  refine ⟨(jp_b b).1, (jp_b b).2, by rw [e1]; exact vp_in_nI hq (by omega), nm_r (e' := upd yk q (nI (l ||| r))) ?_ ⟨by rw [nx_or]; exact vp_in_nI hlr (by omega), nm_r (e' := nI (c + z (l ||| r))) ?_ (nm_r (nI_1 i) hJ)⟩⟩
  · rw [e1, nI_clamp (by omega), nx_or]
  · rw [nx_or, nI_clamp (by omega), hz _ hlr, nI_add]
theorem jp_122 {l r : Nat} (hl : l < 32) (hr : r < 32) {post : SY → Prop} {J : Int32 → Int32 → Int32 → Int32 → Int32 → Int32 → Int32 → (Nat → Int32) → (Nat → Int32) → (Nat → Int32) → (Nat → Int32) → (Nat → Int32) → (Nat → Int32) → Prop} {x1 x2 x4 : Int32} {q i c : Nat} {b b' : Bool} {z : Nat → Nat} (hq : q < 5) (hz : ∀ t, t < 32 → yz t = nI (z t))
    (hJ : J (nI (q + 1)) x4 (nI (i + 1)) (nI (c + z (l ||| r))) (nI l) (jo_bI b) (jo_bI (b' && jo_one r)) yt yf yz ym yr (upd yk q (nI (l ||| r)))) :
    wY_follow_122 post J x1 x2 (nI (q + 1)) x4 (nI i) (nI r) (jo_bI b) fn (nI c) (nI l) fk (jo_bI b') yt yf yz ym yr yk := by
  refine ⟨(jp_b b).1, (jp_b b).2, jp_bz (fun e => ?_) (fun e => ?_)⟩
  · subst e
    exact jp_148 (m := 0) (b := false) hl hr hq hz hJ
  · subst e
    refine ⟨fun h => ?_, fun h => ?_⟩
    · rw [(jb_one r hr).mp h] at hJ
      exact jp_148 (m := 0) (b := true) hl hr hq hz hJ
    · rw [jx_bf fun q => h ((jb_one r hr).mpr q)] at hJ
      exact jp_148 (m := 0) (b := false) hl hr hq hz hJ
theorem jp_lft (p : List (Nat × Nat)) (x : Nat × Nat) : jo_lft (p ++ [x]) = nI x.1 := by
  unfold jo_lft
  rw [List.getLast?_append]
  rfl
theorem jp_fol (hS : ∀ p, p < 25 → S p ≤ 6) (hF : jo_YF S K yf) {z : Nat → Nat} (hz : ∀ t, t < 32 → yz t = nI (z t)) {form m : Nat} (hf : form < 512) (m1 : 1 ≤ m) (m5 : m ≤ 5) {post : SY → Prop} :
    ∀ k i row stk js out tk yk, jo_fol form k i row stk js = some out → i + k = 2 * m - 1 → jo_Row yr tk row → tk + row.length ≤ 5 → (∀ t, t ∈ row → t < 5) → jo_Stk yk stk → stk.length ≤ 5 → (∀ x, x ∈ stk → x < 32) →
      (∀ yk', post (fn, nI (jo_c z out), jo_lft out, jo_bI (jo_lkd (jo_lk K) out), jo_bI (jo_lin out), yt, yf, yz, ym, yr, yk')) →
      wY_follow_29 post (nI form) (nI m) fn (k + 1) (nI stk.length) (nI tk) (nI i) (nI (jo_c z js)) (jo_lft js) (jo_bI (jo_lkd (jo_lk K) js)) (jo_bI (jo_lin js)) yt yf yz ym yr yk := by
  intro k
  induction k with
  | zero =>
    intro i row stk js out tk yk h hi hrow hrl hr5 hst hsl hs32 hp
    cases h
    exact br_t (by rw [jy_2m m1]; exact nI_le (by omega) (by omega)) (hp yk)
  | succ k ih =>
    intro i row stk js out tk yk h hi hrow hrl hr5 hst hsl hs32 hp
    rw [jo_fol.eq_def] at h
    dsimp only at h
    refine br_f (by rw [jy_2m m1]; exact nI_ge (by omega) (by omega)) ⟨fun q => ?_, fun q => ?_⟩
    · have hb := (jb_hf form hf i (by omega)).mp q
      rw [if_pos hb] at h
      cases row with
      | nil => exact nomatch h
      | cons t row =>
        have h' : (if Nat.ble 5 stk.length = true then none else jo_fol form k (i + 1) row (2 ^ t :: stk) js) = some out := h
        by_cases h5 : 5 ≤ stk.length
        · rw [if_pos (Nat.ble_eq_true_of_le h5)] at h'; exact nomatch h'
        · rw [if_neg (fun q => h5 (Nat.le_of_ble_eq_true q))] at h'
          have t5 : t < 5 := hr5 t (List.mem_cons_self ..)
          rw [List.length_cons] at hrl
          refine ⟨vp_in_nI (by omega) (by omega), vp_in_nI (by omega) (by omega), nm_r (e' := upd yk stk.length (nI (2 ^ t))) ?_ (nm_r (nI_1 _) (nm_r (nI_1 _) (nm_r (nI_1 _) ?_)))⟩
          · rw [nI_clamp (by omega), nI_clamp (by omega), hrow.1, jb_shl t (by omega)]
          · refine ih (i + 1) row (2 ^ t :: stk) js out (tk + 1) _ h' (by omega) hrow.2 (by omega) (fun x hx => hr5 x (List.mem_cons_of_mem _ hx)) ⟨pk_us, jp_Stk_upd stk (Nat.le_refl _) hst⟩ (by rw [List.length_cons]; omega) (fun x hx => ?_) hp
            rcases List.mem_cons.mp hx with rfl | hx
            · exact jb_bit t5
            · exact hs32 x hx
    · have hb : ¬ jo_hb form i = true := fun e => q ((jb_hf form hf i (by omega)).mpr e)
      rw [if_neg hb] at h
      match stk, h with
      | [], h => exact nomatch h
      | [_], h => exact nomatch h
      | r :: l :: st, h =>
        have h' : jo_fol form k (i + 1) row ((l ||| r) :: st) (js ++ [(l, r)]) = some out := h
        have hr : r < 32 := hs32 r (List.mem_cons_self ..)
        have hl : l < 32 := hs32 l (List.mem_cons_of_mem _ (List.mem_cons_self ..))
        have hlen : (r :: l :: st).length = st.length + 2 := rfl
        rw [hlen] at hsl ⊢
        have e1 : nI (st.length + 1) - 1 = nI st.length := nI_pred _
        have hgo := ih (i + 1) row ((l ||| r) :: st) (js ++ [(l, r)]) out tk (upd yk st.length (nI (l ||| r))) h' (by omega) hrow hrl hr5 ⟨pk_us, jp_Stk_upd st (Nat.le_refl _) hst.2.2⟩ (by rw [List.length_cons]; omega) (fun x hx => by
          rcases List.mem_cons.mp hx with rfl | hx
          · exact jb_orlt hl hr
          · exact hs32 x (List.mem_cons_of_mem _ (List.mem_cons_of_mem _ hx))) hp
        have ec : jo_c z (js ++ [(l, r)]) = jo_c z js + z (l ||| r) := by simp [jo_c]
        have ek : jo_lkd (jo_lk K) (js ++ [(l, r)]) = (jo_lkd (jo_lk K) js && jo_lk K l r) := by simp [jo_lkd]
        have ei : jo_lin (js ++ [(l, r)]) = (jo_lin js && jo_one r) := by simp [jo_lin]
        rw [ec, ek, ei, jp_lft, List.length_cons] at hgo
        refine nm_r (pk_m1 _) ⟨vp_in_nI (by omega) (by omega), nm_r (e' := nI r) ?_ ⟨by rw [e1]; exact vp_in_nI (by omega) (by omega), nm_r (e' := nI l) ?_ (jp_bz (fun e => ?_) (fun e => jy_lnk hS hF hl hr (fun g => jx_r0 ?_) (fun g => jx_r1 ?_)))⟩⟩
        · rw [nI_clamp (by omega)]; exact hst.1
        · rw [e1, nI_clamp (by omega)]; exact hst.2.1
        · rw [e] at hgo
          exact jp_122 (b := false) hl hr (by omega) hz hgo
        · rw [e, g] at hgo
          exact jp_122 (b := false) hl hr (by omega) hz hgo
        · rw [e, g] at hgo
          exact jp_122 (b := true) hl hr (by omega) hz hgo
end
