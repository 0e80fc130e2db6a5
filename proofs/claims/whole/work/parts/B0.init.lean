/-! CONSTRUCTORS, 1: cells are made one after the other -/
def smL (cs : List AC) : Nat := (cs.map szA).sum
def alL (h : AH) (cs : List AC) : AH := ((h.1.1 + cs.length, h.1.2 + smL cs), fun q => if q < h.1.1 then h.2 q else cs.getD (q - h.1.1) (h.2 q))
section
variable {h : AH} {cs : List AC} {o : Nat}
theorem alL_nil (h : AH) : alL h [] = h := by
  unfold alL
  refine Prod.ext (Prod.ext rfl rfl) (funext fun q => ?_)
  show (if q < h.1.1 then h.2 q else ([] : List AC).getD (q - h.1.1) (h.2 q)) = h.2 q
  split
  · rfl
  · simp
theorem alL_at {i : Nat} {c : AC} (ho : h.1.1 = o) (hi : cs[i]? = some c) : (alL h cs).2 (o + i) = c := by
  show (if o + i < h.1.1 then h.2 (o + i) else cs.getD (o + i - h.1.1) (h.2 (o + i))) = c
  rw [if_neg (by omega), ho, show o + i - o = i by omega, List.getD_eq_getElem?_getD, hi]
  rfl
theorem alL_lt {q : Nat} (hq : q < h.1.1) : (alL h cs).2 q = h.2 q := if_pos hq
theorem smL_app (a b : List AC) : smL (a ++ b) = smL a + smL b := by unfold smL; rw [List.map_append, List.sum_append]
theorem alL_app (a b : List AC) : alL (alL h a) b = alL h (a ++ b) := by
  refine Prod.ext (Prod.ext ?_ ?_) (funext fun q => ?_)
  · show h.1.1 + a.length + b.length = h.1.1 + (a ++ b).length
    rw [List.length_append]; omega
  · show h.1.2 + smL a + smL b = h.1.2 + smL (a ++ b)
    rw [smL_app]; omega
  · show (if q < h.1.1 + a.length then (if q < h.1.1 then h.2 q else a.getD (q - h.1.1) (h.2 q)) else b.getD (q - (h.1.1 + a.length)) (if q < h.1.1 then h.2 q else a.getD (q - h.1.1) (h.2 q))) = if q < h.1.1 then h.2 q else (a ++ b).getD (q - h.1.1) (h.2 q)
    by_cases h1 : q < h.1.1
    · rw [if_pos h1, if_pos h1, if_pos (by omega)]
    · rw [if_neg h1, if_neg h1, List.getD_eq_getElem?_getD, List.getD_eq_getElem?_getD, List.getD_eq_getElem?_getD, List.getElem?_append]
      by_cases h2 : q < h.1.1 + a.length
      · rw [if_pos h2, if_pos (by omega)]
      · rw [if_neg h2, if_neg (by omega), show q - (h.1.1 + a.length) = q - h.1.1 - a.length by omega, show a[q - h.1.1]? = none from List.getElem?_eq_none (by omega)]
        rfl
theorem alH_alL (c : AC) : alH (alL h cs) c = alL h (cs ++ [c]) := by
  rw [← alL_app]
  refine Prod.ext (Prod.ext rfl ?_) (funext fun q => ?_)
  · show (alL h cs).1.2 + szA c = (alL h cs).1.2 + smL [c]
    unfold smL; simp
  · show (if q = (alL h cs).1.1 then c else (alL h cs).2 q) = if q < (alL h cs).1.1 then (alL h cs).2 q else [c].getD (q - (alL h cs).1.1) ((alL h cs).2 q)
    generalize (alL h cs).1.1 = z
    rcases Nat.lt_trichotomy q z with e | e | e
    · rw [if_pos e, if_neg (by omega)]
    · rw [if_pos e, if_neg (by omega), e, Nat.sub_self]; rfl
    · rw [if_neg (by omega), if_neg (by omega), List.getD_eq_getElem?_getD, List.getElem?_eq_none (by simp; omega)]; rfl
theorem upH_alL {i : Nat} {c c' : AC} (ho : h.1.1 = o) (hi : cs[i]? = some c) (hz : szA c' = szA c) : upH (alL h cs) (o + i) c' = alL h (cs.set i c') := by
  have hl := (List.getElem?_eq_some_iff.mp hi).1
  refine Prod.ext (Prod.ext ?_ ?_) (funext fun q => ?_)
  · show h.1.1 + cs.length = h.1.1 + (cs.set i c').length
    rw [List.length_set]
  · show h.1.2 + smL cs = h.1.2 + smL (cs.set i c')
    unfold smL
    rw [List.map_set, hz]
    have : (cs.map szA).set i (szA c) = cs.map szA := by
      apply List.ext_getElem?
      intro k
      rw [List.getElem?_set]
      by_cases e : i = k
      · subst e
        rw [if_pos rfl, if_pos (by rw [List.length_map]; exact hl), List.getElem?_map, hi]; rfl
      · rw [if_neg e]
    rw [this]
  · show (if q = o + i then c' else (if q < h.1.1 then h.2 q else cs.getD (q - h.1.1) (h.2 q))) = if q < h.1.1 then h.2 q else (cs.set i c').getD (q - h.1.1) (h.2 q)
    rw [List.getD_eq_getElem?_getD, List.getD_eq_getElem?_getD, List.getElem?_set]
    by_cases e : q = o + i
    · rw [if_pos e, if_neg (by omega), if_pos (by omega), if_pos (by omega)]; rfl
    · by_cases h1 : q < h.1.1
      · rw [if_neg e, if_pos h1, if_pos h1]
      · rw [if_neg e, if_neg h1, if_neg h1, if_neg (by omega)]
end
section
variable {d mi i nL : Nat} {cd : List EI} {ret : Option FieldType} {bp : Nat} {x : Int32} {y : Int64} {j a b : Nat} {ts : List Nat} {ls : ALs} {st : List Value} {h : AH} {cs cs' : List AC} {o r : Nat} {Q : Option Value → AH → Prop}
theorem A_new {ix : Nat} (ho : h.1.1 = o) (hm : mt mi = (cd, nL, ret)) (he : cd[i]? = some (bp, .new ix, x, y, j, a, b, ts)) (hr : o + cs.length = r) (k : R d mi j ls (.ref r :: st) (alL h (cs ++ [objA a (dvl a)])) Q) : R d mi i ls st (alL h cs) Q := by
  refine R_new hm he ?_
  rw [alH_alL]
  have : (alL h cs).1.1 = r := by rw [← hr, ← ho]; rfl
  rw [this]
  exact k
theorem A_nwi {n : Nat} (ho : h.1.1 = o) (hm : mt mi = (cd, nL, ret)) (he : cd[i]? = some (bp, .newarray .int, x, y, j, a, b, ts)) {q : Int32} (hq : q = nI n) (hn : n < 100000) (hr : o + cs.length = r) (k : R d mi j ls (.ref r :: st) (alL h (cs ++ [ints n (fun _ => 0)])) Q) : R d mi i ls (.int q :: st) (alL h cs) Q := by
  refine R_nwi hm he hq hn ?_
  rw [alH_alL]
  have : (alL h cs).1.1 = r := by rw [← hr, ← ho]; rfl
  rw [this]
  exact k
theorem A_nwl {n : Nat} (ho : h.1.1 = o) (hm : mt mi = (cd, nL, ret)) (he : cd[i]? = some (bp, .newarray .long, x, y, j, a, b, ts)) {q : Int32} (hq : q = nI n) (hn : n < 100000) (hr : o + cs.length = r) (k : R d mi j ls (.ref r :: st) (alL h (cs ++ [longs n (fun _ => 0)])) Q) : R d mi i ls (.int q :: st) (alL h cs) Q := by
  refine R_nwl hm he hq hn ?_
  rw [alH_alL]
  have : (alL h cs).1.1 = r := by rw [← hr, ← ho]; rfl
  rw [this]
  exact k
theorem A_nwb {n : Nat} (ho : h.1.1 = o) (hm : mt mi = (cd, nL, ret)) (he : cd[i]? = some (bp, .newarray .byte, x, y, j, a, b, ts)) {q : Int32} (hq : q = nI n) (hn : n < 100000) (hr : o + cs.length = r) (k : R d mi j ls (.ref r :: st) (alL h (cs ++ [bytesA n (fun _ => 0)])) Q) : R d mi i ls (.int q :: st) (alL h cs) Q := by
  refine R_nwb hm he hq hn ?_
  rw [alH_alL]
  have : (alL h cs).1.1 = r := by rw [← hr, ← ho]; rfl
  rw [this]
  exact k
theorem A_nwr {n ix : Nat} (ho : h.1.1 = o) (hm : mt mi = (cd, nL, ret)) (he : cd[i]? = some (bp, .anewarray ix, x, y, j, a, b, ts)) {q : Int32} (hq : q = nI n) (hn : n < 100000) (hr : o + cs.length = r) (k : R d mi j ls (.ref r :: st) (alL h (cs ++ [.inl (tpT, n, .inr (.inr (.inr (.inr (fun _ => none)))))])) Q) : R d mi i ls (.int q :: st) (alL h cs) Q := by
  refine R_nwr hm he hq hn ?_
  rw [alH_alL]
  have : (alL h cs).1.1 = r := by rw [← hr, ← ho]; rfl
  rw [this]
  exact k
theorem A_put {ix : Nat} {fs : List Value} {v : Value} (ho : h.1.1 = o) (o3 : 3 ≤ o) (hm : mt mi = (cd, nL, ret)) (he : cd[i]? = some (bp, .putfield ix, x, y, j, a, b, ts)) (e : Nat) (hr : o + e = r) (hc : cs[e]? = some (objA b fs)) (hl : a < fs.length) (hv : okV (fty b a) v = true) (hcs : cs.set e (objA b (fs.set a v)) = cs') (k : R d mi j ls st (alL h cs') Q) : R d mi i ls (v :: .ref r :: st) (alL h cs) Q := by
  subst hr
  refine R_put hm he (alL_at ho hc) (by omega) hl hv ?_
  rw [upH_alL ho hc (by show (fs.set a v).length = fs.length; rw [List.length_set]), hcs]
  exact k
theorem A_get {ix : Nat} {fs : List Value} {v : Value} (ho : h.1.1 = o) (hm : mt mi = (cd, nL, ret)) (he : cd[i]? = some (bp, .getfield ix, x, y, j, a, b, ts)) (e : Nat) (hr : o + e = r) (hc : cs[e]? = some (objA b fs)) (hv : fs[a]? = some v) (k : R d mi j ls (v :: st) (alL h cs) Q) : R d mi i ls (.ref r :: st) (alL h cs) Q := by
  subst hr
  exact R_get hm he (alL_at ho hc) hv k
/-- new and its constructor -/
theorem A_ini {ix q c : Nat} {av : List Value} {cc : List AC} (ho : h.1.1 = o) (hm : mt mi = (cd, nL, ret)) (he : cd[i]? = some (bp, .invokespecial ix, x, y, j, a, b, ts)) {st' : List Value} (hb : (decide (b < 1000) && decide (b ≤ st.length) && decide (unS (st.drop b) ≤ 8)) = true) (ha : (st.take b).reverse = .ref q :: av) (hr : st.drop b = st') {p : List AC} (hp : cs = p ++ [objA c (dvl c)]) (hc : ∀ h2 : AH, h2.1.1 = o + p.length → Cl d a (.ref q :: av) (alL h2 [objA c (dvl c)]) none (alL h2 cc)) (hcs : p ++ cc = cs') (kk : R (d + 1) mi j ls st' (alL h cs') Q) : R (d + 1) mi i ls st (alL h cs) Q := by
  subst hp
  rw [← alL_app]
  refine R_ci hm he hb ha hr (hc (alL h p) (by rw [← ho]; rfl)) ?_
  rw [alL_app, hcs]
  exact kk
theorem A_ist {k n : Nat} {f : Nat → Int32} {q v : Int32} (ho : h.1.1 = o) (o3 : 3 ≤ o) (hm : mt mi = (cd, nL, ret)) (he : cd[i]? = some (bp, .iastore, x, y, j, a, b, ts)) (e : Nat) (hr : o + e = r) (hc : cs[e]? = some (ints n f)) (hq : q = nI k) (hk : k < n) (hn : n < 100000) (hcs : cs.set e (ints n (upd f k v)) = cs') (kk : R d mi j ls st (alL h cs') Q) : R d mi i ls (.int v :: .int q :: .ref r :: st) (alL h cs) Q := by
  subst hr
  refine R_ist hm he (alL_at ho hc) (by omega) hq hk hn ?_
  rw [upH_alL (c' := ints n (upd f k v)) ho hc rfl, hcs]
  exact kk
theorem A_ast {k n : Nat} {f : Nat → Option Nat} {C : String} {fs : List Value} {q : Int32} {v : Nat} (ho : h.1.1 = o) (o3 : 3 ≤ o) (hm : mt mi = (cd, nL, ret)) (he : cd[i]? = some (bp, .aastore, x, y, j, a, b, ts)) (e ev : Nat) (hr : o + e = r) (hve : o + ev = v) (hc : cs[e]? = some (.inl (.object C, n, .inr (.inr (.inr (.inr f)))))) (hcv : cs[ev]? = some (objA b fs)) (hq : q = nI k) (hk : k < n) (hn : n < 100000) (hcs : cs.set e (.inl (.object C, n, .inr (.inr (.inr (.inr (va_up f k (some v))))))) = cs') (kk : R d mi j ls st (alL h cs') Q) : R d mi i ls (.ref v :: .int q :: .ref r :: st) (alL h cs) Q := by
  subst hr hve hq
  refine R_h (st' := st) hm he rfl rfl (h' := upH (alL h cs) (o + e) (.inl (.object C, n, .inr (.inr (.inr (.inr (va_up f k (some (o + ev))))))))) ?_ ?_
  · unfold stepH
    dsimp only
    rw [alL_at ho hc]
    dsimp only
    rw [alL_at ho hcv]
    dsimp only
    rw [if_pos ⟨inB_nI hk (by omega), (show 3 ≤ o + e by omega), (show 3 ≤ o + ev by omega), rfl⟩, nI_clamp (by omega)]
  · rw [upH_alL (c' := .inl (.object C, n, .inr (.inr (.inr (.inr (va_up f k (some (o + ev)))))))) ho hc rfl, hcs]
    exact kk
end
