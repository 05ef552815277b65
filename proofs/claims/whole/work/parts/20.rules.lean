-- ===== rules of the mini-machine, as rows to rewrite with =====
/-- n plain steps -/
def stN : Nat → Nat → MC → Option MC
  | 0, _, cf => some cf
  | n + 1, k, (j, ls, st, b, M) => match mstep (opAt k j) j ls st b M with
    | some (Sum.inl cf) => stN n k cf
    | _ => none
theorem w_st (n : Nat) {k j j' : Nat} {ls st ls' st' : List MV} {b b' : Nat × Nat} {M M' : MM} {Q : Option MV → MM → Prop} (h : stN n k (j, ls, st, b, M) = some (j', ls', st', b', M')) : wpc k j ls st b M Q ↔ wpc k j' ls' st' b' M' Q := by
  induction n generalizing j ls st b M with
  | zero => cases h; exact Iff.rfl
  | succ n ih =>
    unfold stN at h
    split at h
    · rename_i cf hm
      obtain ⟨j1, ls1, st1, b1, M1⟩ := cf
      exact (wpc_nx hm).trans (ih h)
    · cases h
section RULES
variable {k j : Nat} {ls st : List MV} {b : Nat × Nat} {S : MS} {R : Nat → Int → Option Nat} {I : Nat → Int → Int} {J : Nat → Int → Int64} {Q : Option MV → MM → Prop} {pl : Nat × Nat} {ns : List Nat} {z : Int} {sw : List (Int × Nat)}
theorem w_gd {c : Bool} {C : Prop} {j' : Nat} {ls' st' : List MV} {b' : Nat × Nat} {M M' : MM} (hc : c = true ↔ C) (h : mstep (opAt k j) j ls st b M = gd c (nx j' ls' st' b' M')) : wpc k j ls st b M Q ↔ C ∧ wpc k j' ls' st' b' M' Q := by
  by_cases h1 : c = true
  · rw [wpc_nx (by rw [h, h1]; rfl)]
    exact ⟨fun h2 => ⟨hc.mp h1, h2⟩, fun h2 => h2.2⟩
  · rw [wpc_no (by rw [h]; unfold gd; rw [if_neg h1])]
    exact ⟨fun h2 => False.elim h2, fun h2 => h1 (hc.mpr h2.1)⟩
theorem w_br {c : Bool} {C : Prop} [Decidable C] {j1 j2 : Nat} {ls' st' : List MV} {b' : Nat × Nat} {M M' : MM} (hc : c = true ↔ C) (h : mstep (opAt k j) j ls st b M = br c j1 j2 ls' st' b' M') : wpc k j ls st b M Q ↔ if C then wpc k j1 ls' st' b' M' Q else wpc k j2 ls' st' b' M' Q := by
  by_cases h1 : c = true
  · rw [if_pos (hc.mp h1), wpc_nx (by rw [h, h1]; rfl)]
  · rw [if_neg (fun h2 => h1 (hc.mpr h2)), wpc_nx (by rw [h]; unfold br; rw [if_neg h1]; rfl)]
theorem w_ite {C A B A' B' : Prop} [Decidable C] (h1 : C → (A ↔ A')) (h2 : ¬ C → (B ↔ B')) : (if C then A else B) ↔ (if C then A' else B') := by
  by_cases h : C
  · rw [if_pos h, if_pos h]; exact h1 h
  · rw [if_neg h, if_neg h]; exact h2 h
-- branches
theorem w_ifeq {o : Int} {x : Int} (hf : opAt k j = (.ifCond .eq o, pl, ns, z, sw)) {M : MM} : wpc k j ls (vI x :: st) b M Q ↔ if x = 0 then wpc k (ns.getD 0 0) ls st b M Q else wpc k (j + 1) ls st b M Q := w_br (c := decide (x = 0)) decide_eq_true_iff (by rw [hf]; rfl)
theorem w_ifne {o : Int} {x : Int} (hf : opAt k j = (.ifCond .ne o, pl, ns, z, sw)) {M : MM} : wpc k j ls (vI x :: st) b M Q ↔ if x = 0 then wpc k (j + 1) ls st b M Q else wpc k (ns.getD 0 0) ls st b M Q := w_br (c := decide (x = 0)) decide_eq_true_iff (by rw [hf]; rfl)
theorem w_iflt {o : Int} {x : Int} (hf : opAt k j = (.ifCond .lt o, pl, ns, z, sw)) {M : MM} : wpc k j ls (vI x :: st) b M Q ↔ if x < 0 then wpc k (ns.getD 0 0) ls st b M Q else wpc k (j + 1) ls st b M Q := w_br (c := decide (x < 0)) decide_eq_true_iff (by rw [hf]; rfl)
theorem w_ifge {o : Int} {x : Int} (hf : opAt k j = (.ifCond .ge o, pl, ns, z, sw)) {M : MM} : wpc k j ls (vI x :: st) b M Q ↔ if x < 0 then wpc k (j + 1) ls st b M Q else wpc k (ns.getD 0 0) ls st b M Q := w_br (c := decide (x < 0)) decide_eq_true_iff (by rw [hf]; rfl)
theorem w_ifgt {o : Int} {x : Int} (hf : opAt k j = (.ifCond .gt o, pl, ns, z, sw)) {M : MM} : wpc k j ls (vI x :: st) b M Q ↔ if x ≤ 0 then wpc k (j + 1) ls st b M Q else wpc k (ns.getD 0 0) ls st b M Q := w_br (c := decide (x ≤ 0)) decide_eq_true_iff (by rw [hf]; rfl)
theorem w_ifle {o : Int} {x : Int} (hf : opAt k j = (.ifCond .le o, pl, ns, z, sw)) {M : MM} : wpc k j ls (vI x :: st) b M Q ↔ if x ≤ 0 then wpc k (ns.getD 0 0) ls st b M Q else wpc k (j + 1) ls st b M Q := w_br (c := decide (x ≤ 0)) decide_eq_true_iff (by rw [hf]; rfl)
theorem w_ceq {o : Int} {x y : Int} (hf : opAt k j = (.if_icmp .eq o, pl, ns, z, sw)) {M : MM} : wpc k j ls (vI y :: vI x :: st) b M Q ↔ if x = y then wpc k (ns.getD 0 0) ls st b M Q else wpc k (j + 1) ls st b M Q := w_br (c := decide (x = y)) decide_eq_true_iff (by rw [hf]; rfl)
theorem w_cne {o : Int} {x y : Int} (hf : opAt k j = (.if_icmp .ne o, pl, ns, z, sw)) {M : MM} : wpc k j ls (vI y :: vI x :: st) b M Q ↔ if x = y then wpc k (j + 1) ls st b M Q else wpc k (ns.getD 0 0) ls st b M Q := w_br (c := decide (x = y)) decide_eq_true_iff (by rw [hf]; rfl)
theorem w_clt {o : Int} {x y : Int} (hf : opAt k j = (.if_icmp .lt o, pl, ns, z, sw)) {M : MM} : wpc k j ls (vI y :: vI x :: st) b M Q ↔ if x < y then wpc k (ns.getD 0 0) ls st b M Q else wpc k (j + 1) ls st b M Q := w_br (c := decide (x < y)) decide_eq_true_iff (by rw [hf]; rfl)
theorem w_cge {o : Int} {x y : Int} (hf : opAt k j = (.if_icmp .ge o, pl, ns, z, sw)) {M : MM} : wpc k j ls (vI y :: vI x :: st) b M Q ↔ if x < y then wpc k (j + 1) ls st b M Q else wpc k (ns.getD 0 0) ls st b M Q := w_br (c := decide (x < y)) decide_eq_true_iff (by rw [hf]; rfl)
theorem w_cgt {o : Int} {x y : Int} (hf : opAt k j = (.if_icmp .gt o, pl, ns, z, sw)) {M : MM} : wpc k j ls (vI y :: vI x :: st) b M Q ↔ if x ≤ y then wpc k (j + 1) ls st b M Q else wpc k (ns.getD 0 0) ls st b M Q := w_br (c := decide (x ≤ y)) decide_eq_true_iff (by rw [hf]; rfl)
theorem w_cle {o : Int} {x y : Int} (hf : opAt k j = (.if_icmp .le o, pl, ns, z, sw)) {M : MM} : wpc k j ls (vI y :: vI x :: st) b M Q ↔ if x ≤ y then wpc k (ns.getD 0 0) ls st b M Q else wpc k (j + 1) ls st b M Q := w_br (c := decide (x ≤ y)) decide_eq_true_iff (by rw [hf]; rfl)
theorem w_ifnull {o : Int} {q : Option Nat} (hf : opAt k j = (.ifnull o, pl, ns, z, sw)) {M : MM} : wpc k j ls (vR q :: st) b M Q ↔ if q = none then wpc k (ns.getD 0 0) ls st b M Q else wpc k (j + 1) ls st b M Q := w_br (c := q.isNone) Option.isNone_iff_eq_none (by rw [hf]; rfl)
theorem w_ifnonnull {o : Int} {q : Option Nat} (hf : opAt k j = (.ifnonnull o, pl, ns, z, sw)) {M : MM} : wpc k j ls (vR q :: st) b M Q ↔ if q = none then wpc k (j + 1) ls st b M Q else wpc k (ns.getD 0 0) ls st b M Q := w_br (c := q.isNone) Option.isNone_iff_eq_none (by rw [hf]; rfl)
def swP (x : Int) (d : Nat) (K : Nat → Prop) : List (Int × Nat) → Prop
  | [] => K d
  | (c, t) :: r => if x = c then K t else swP x d K r
theorem swP_eq (x : Int) (d : Nat) (K : Nat → Prop) : ∀ l : List (Int × Nat), swP x d K l ↔ K (swT x d l)
  | [] => Iff.rfl
  | (c, t) :: r => by
    unfold swP swT
    by_cases h : x = c
    · rw [if_pos h, if_pos h]
    · rw [if_neg h, if_neg h]; exact swP_eq x d K r
theorem w_tsw {x d lo hi : Int} {offs : Array Int} (hf : opAt k j = (.tableswitch d lo hi offs, pl, ns, z, sw)) {M : MM} : wpc k j ls (vI x :: st) b M Q ↔ swP x (ns.getD 0 0) (fun t => wpc k t ls st b M Q) sw := (wpc_nx (j' := swT x (ns.getD 0 0) sw) (by rw [hf]; rfl)).trans (swP_eq x _ (fun t => wpc k t ls st b M Q) sw).symm
theorem w_lsw {x d : Int} {ps : Array (Int × Int)} (hf : opAt k j = (.lookupswitch d ps, pl, ns, z, sw)) {M : MM} : wpc k j ls (vI x :: st) b M Q ↔ swP x (ns.getD 0 0) (fun t => wpc k t ls st b M Q) sw := (wpc_nx (j' := swT x (ns.getD 0 0) sw) (by rw [hf]; rfl)).trans (swP_eq x _ (fun t => wpc k t ls st b M Q) sw).symm
-- divisions
theorem w_idiv {x y : Int} (hf : opAt k j = (.idiv, pl, ns, z, sw)) {M : MM} : wpc k j ls (vI y :: vI x :: st) b M Q ↔ ¬ y = 0 ∧ wpc k (j + 1) ls (vI (w32 (x.tdiv y)) :: st) b M Q := w_gd (c := decide (¬ y = 0)) decide_eq_true_iff (by rw [hf]; rfl)
theorem w_irem {x y : Int} (hf : opAt k j = (.irem, pl, ns, z, sw)) {M : MM} : wpc k j ls (vI y :: vI x :: st) b M Q ↔ ¬ y = 0 ∧ wpc k (j + 1) ls (vI (x.tmod y) :: st) b M Q := w_gd (c := decide (¬ y = 0)) decide_eq_true_iff (by rw [hf]; rfl)
theorem w_ldiv {x y : Int64} (hf : opAt k j = (.ldiv, pl, ns, z, sw)) {M : MM} : wpc k j ls (vL y :: vL x :: st) b M Q ↔ ¬ y = 0 ∧ wpc k (j + 1) ls (vL (x / y) :: st) b M Q := w_gd (c := decide (¬ y = 0)) decide_eq_true_iff (by rw [hf]; rfl)
theorem w_lrem {x y : Int64} (hf : opAt k j = (.lrem, pl, ns, z, sw)) {M : MM} : wpc k j ls (vL y :: vL x :: st) b M Q ↔ ¬ y = 0 ∧ wpc k (j + 1) ls (vL (x - x / y * y) :: st) b M Q := w_gd (c := decide (¬ y = 0)) decide_eq_true_iff (by rw [hf]; rfl)
-- fields
theorem w_gI {y a ci fk ft : Nat} (hf : opAt k j = (.getfield y, pl, [ci, fk, ft], z, sw)) (ht : ft = 0 ∨ ft = 1) (hk : kd S a = ci) : wpc k j ls (vR (some a) :: st) b (S, R, I, J) Q ↔ wpc k (j + 1) ls (vI (I a fk) :: st) b (S, R, I, J) Q := by
  subst hk
  rcases ht with rfl | rfl
  · exact wpc_nx (by rw [hf]; show gd (decide (kd S a = kd S a)) _ = _; rw [decide_eq_true rfl]; rfl)
  · exact wpc_nx (by rw [hf]; show gd (decide (kd S a = kd S a)) _ = _; rw [decide_eq_true rfl]; rfl)
theorem w_gJ {y a ci fk : Nat} (hf : opAt k j = (.getfield y, pl, [ci, fk, 2], z, sw)) (hk : kd S a = ci) : wpc k j ls (vR (some a) :: st) b (S, R, I, J) Q ↔ wpc k (j + 1) ls (vL (J a fk) :: st) b (S, R, I, J) Q := by
  subst hk
  exact wpc_nx (by rw [hf]; show gd (decide (kd S a = kd S a)) _ = _; rw [decide_eq_true rfl]; rfl)
theorem w_gR {y a ci fk : Nat} {q : Option Nat} (hf : opAt k j = (.getfield y, pl, [ci, fk, 3], z, sw)) (hk : kd S a = ci) (hq : R a fk = q) : wpc k j ls (vR (some a) :: st) b (S, R, I, J) Q ↔ wpc k (j + 1) ls (vR q :: st) b (S, R, I, J) Q := by
  subst hk; subst hq
  exact wpc_nx (by rw [hf]; show gd (decide (kd S a = kd S a)) _ = _; rw [decide_eq_true rfl]; rfl)
theorem w_gS {y a ci fk : Nat} {q : Option Nat} (hf : opAt k j = (.getfield y, pl, [ci, fk, 4], z, sw)) (hk : kd S a = ci) (hq : fz S a fk = q) : wpc k j ls (vR (some a) :: st) b (S, R, I, J) Q ↔ wpc k (j + 1) ls (vR q :: st) b (S, R, I, J) Q := by
  subst hk; subst hq
  exact wpc_nx (by rw [hf]; show gd (decide (kd S a = kd S a)) _ = _; rw [decide_eq_true rfl]; rfl)
theorem w_pI {y a ci fk : Nat} {v : Int} (hf : opAt k j = (.putfield y, pl, [ci, fk, 0], z, sw)) (hk : kd S a = ci) : wpc k j ls (vI v :: vR (some a) :: st) b (S, R, I, J) Q ↔ wpc k (j + 1) ls st b (S, R, upM I a fk v, J) Q := by
  subst hk
  exact wpc_nx (by rw [hf]; show gd (decide (kd S a = kd S a)) _ = _; rw [decide_eq_true rfl]; rfl)
theorem w_pZ {y a ci fk : Nat} {v : Int} (hf : opAt k j = (.putfield y, pl, [ci, fk, 1], z, sw)) (hk : kd S a = ci) (hv : v = 0 ∨ v = 1) : wpc k j ls (vI v :: vR (some a) :: st) b (S, R, I, J) Q ↔ wpc k (j + 1) ls st b (S, R, upM I a fk v, J) Q := by
  subst hk
  have h1 : z01 v = true := by unfold z01; rcases hv with rfl | rfl <;> rfl
  exact wpc_nx (by rw [hf]; show gd (decide (kd S a = kd S a) && z01 v) _ = _; rw [decide_eq_true rfl, h1]; rfl)
theorem w_pJ {y a ci fk : Nat} {v : Int64} (hf : opAt k j = (.putfield y, pl, [ci, fk, 2], z, sw)) (hk : kd S a = ci) : wpc k j ls (vL v :: vR (some a) :: st) b (S, R, I, J) Q ↔ wpc k (j + 1) ls st b (S, R, I, upM J a fk v) Q := by
  subst hk
  exact wpc_nx (by rw [hf]; show gd (decide (kd S a = kd S a)) _ = _; rw [decide_eq_true rfl]; rfl)
theorem w_pR {y a ci fk : Nat} {v : Option Nat} (hf : opAt k j = (.putfield y, pl, [ci, fk, 3], z, sw)) (hk : kd S a = ci) : wpc k j ls (vR v :: vR (some a) :: st) b (S, R, I, J) Q ↔ wpc k (j + 1) ls st b (S, upM R a fk v, I, J) Q := by
  subst hk
  exact wpc_nx (by rw [hf]; show gd (decide (kd S a = kd S a)) _ = _; rw [decide_eq_true rfl]; rfl)
theorem w_pS {y a ci fk : Nat} {v : Option Nat} (hf : opAt k j = (.putfield y, pl, [ci, fk, 4], z, sw)) (hk : kd S a = ci) (hl : fk < frL S a) : wpc k j ls (vR v :: vR (some a) :: st) b (S, R, I, J) Q ↔ wpc k (j + 1) ls st b (setFz S a fk v, R, I, J) Q := by
  subst hk
  exact wpc_nx (by rw [hf]; show gd (decide (kd S a = kd S a) && decide (fk < frL S a)) _ = _; rw [decide_eq_true rfl, decide_eq_true hl]; rfl)
-- arrays
theorem inB_iff {a : Nat} {i n : Int} (hn : (ln S a : Int) = n) : inB S a i = true ↔ (0 ≤ i ∧ i < n) := by
  unfold inB
  rw [hn]
  simp only [Bool.and_eq_true, decide_eq_true_eq]
theorem w_iald {a : Nat} {n : Int} {i : Int} (hf : opAt k j = (.iaload, pl, ns, z, sw)) (hk : kd S a = 20 ∨ kd S a = 19) (hn : (ln S a : Int) = n) : wpc k j ls (vI i :: vR (some a) :: st) b (S, R, I, J) Q ↔ (0 ≤ i ∧ i < n) ∧ wpc k (j + 1) ls (vI (I a i) :: st) b (S, R, I, J) Q := by
  refine w_gd (c := (decide (kd S a = 20) || decide (kd S a = 19)) && inB S a i) ?_ (by rw [hf]; rfl)
  rw [Bool.and_eq_true, inB_iff hn, Bool.or_eq_true, decide_eq_true_eq, decide_eq_true_eq]
  exact ⟨fun h => h.2, fun h => ⟨hk, h⟩⟩
theorem w_bald {a : Nat} {n : Int} {i : Int} (hf : opAt k j = (.baload, pl, ns, z, sw)) (hk : kd S a = 21 ∨ kd S a = 22) (hn : (ln S a : Int) = n) : wpc k j ls (vI i :: vR (some a) :: st) b (S, R, I, J) Q ↔ (0 ≤ i ∧ i < n) ∧ wpc k (j + 1) ls (vI (I a i) :: st) b (S, R, I, J) Q := by
  refine w_gd (c := (decide (kd S a = 21) || decide (kd S a = 22)) && inB S a i) ?_ (by rw [hf]; rfl)
  rw [Bool.and_eq_true, inB_iff hn, Bool.or_eq_true, decide_eq_true_eq, decide_eq_true_eq]
  exact ⟨fun h => h.2, fun h => ⟨hk, h⟩⟩
theorem w_aaldF {a kk : Nat} {n : Int} {i : Int} {f : Int → Nat} (hf : opAt k j = (.aaload, pl, ns, z, sw)) (hk : kd S a = kk) (h1 : frK kk = true) (hn : (ln S a : Int) = n) (hv : ∀ i : Int, 0 ≤ i → i < n → fz S a i.toNat = some (f i)) : wpc k j ls (vI i :: vR (some a) :: st) b (S, R, I, J) Q ↔ (0 ≤ i ∧ i < n) ∧ wpc k (j + 1) ls (vR (some (f i)) :: st) b (S, R, I, J) Q := by
  have hkk : 23 ≤ kk ∧ kk ≤ 27 := by
    unfold frK at h1
    simp only [Bool.or_eq_true, beq_iff_eq] at h1
    omega
  have e1 : wpc k j ls (vI i :: vR (some a) :: st) b (S, R, I, J) Q ↔ (0 ≤ i ∧ i < n) ∧ wpc k (j + 1) ls (vR (fz S a i.toNat) :: st) b (S, R, I, J) Q := by
    refine w_gd (c := decide (23 ≤ kd S a) && decide (kd S a ≤ 27) && inB S a i) ?_ (by rw [hf]; show gd _ (nx (j + 1) ls (vR (if frK (kd S a) = true then fz S a i.toNat else R a i) :: st) b (S, R, I, J)) = _; rw [hk, if_pos h1])
    rw [Bool.and_eq_true, inB_iff hn, Bool.and_eq_true, decide_eq_true_eq, decide_eq_true_eq, hk]
    exact ⟨fun h => h.2, fun h => ⟨hkk, h⟩⟩
  rw [e1]
  exact and_congr_right fun h => by rw [hv i h.1 h.2]
theorem w_aaldD {a : Nat} {n : Int} {i : Int} {q : Option Nat} (hf : opAt k j = (.aaload, pl, ns, z, sw)) (hk : kd S a = 26) (hn : (ln S a : Int) = n) (hq : R a i = q) : wpc k j ls (vI i :: vR (some a) :: st) b (S, R, I, J) Q ↔ (0 ≤ i ∧ i < n) ∧ wpc k (j + 1) ls (vR q :: st) b (S, R, I, J) Q := by
  subst hq
  refine w_gd (c := decide (23 ≤ kd S a) && decide (kd S a ≤ 27) && inB S a i) ?_ (by rw [hf]; show gd _ (nx (j + 1) ls (vR (if frK (kd S a) = true then fz S a i.toNat else R a i) :: st) b (S, R, I, J)) = _; rw [hk, if_neg (by decide)])
  rw [Bool.and_eq_true, inB_iff hn, Bool.and_eq_true, decide_eq_true_eq, decide_eq_true_eq, hk]
  exact ⟨fun h => h.2, fun h => ⟨⟨by decide, by decide⟩, h⟩⟩
theorem w_iast {a : Nat} {n : Int} {i v : Int} (hf : opAt k j = (.iastore, pl, ns, z, sw)) (hk : kd S a = 20) (hn : (ln S a : Int) = n) : wpc k j ls (vI v :: vI i :: vR (some a) :: st) b (S, R, I, J) Q ↔ (0 ≤ i ∧ i < n) ∧ wpc k (j + 1) ls st b (S, R, upM I a i v, J) Q := by
  refine w_gd (c := decide (kd S a = 20) && inB S a i) ?_ (by rw [hf]; rfl)
  rw [Bool.and_eq_true, inB_iff hn, decide_eq_true_eq]
  exact ⟨fun h => h.2, fun h => ⟨hk, h⟩⟩
theorem w_bast {a : Nat} {n : Int} {i v : Int} (hf : opAt k j = (.bastore, pl, ns, z, sw)) (hk : kd S a = 21 ∨ (kd S a = 22 ∧ z01 v = true)) (hn : (ln S a : Int) = n) : wpc k j ls (vI v :: vI i :: vR (some a) :: st) b (S, R, I, J) Q ↔ (0 ≤ i ∧ i < n) ∧ wpc k (j + 1) ls st b (S, R, upM I a i (ib8 v), J) Q := by
  refine w_gd (c := (decide (kd S a = 21) || (decide (kd S a = 22) && z01 v)) && inB S a i) ?_ (by rw [hf]; rfl)
  rw [Bool.and_eq_true, inB_iff hn, Bool.or_eq_true, Bool.and_eq_true, decide_eq_true_eq, decide_eq_true_eq]
  exact ⟨fun h => h.2, fun h => ⟨hk, h⟩⟩
theorem w_aastD {a v : Nat} {n : Int} {i : Int} (hf : opAt k j = (.aastore, pl, ns, z, sw)) (hk : kd S a = 26) (hv : kd S v = 3) (hn : (ln S a : Int) = n) : wpc k j ls (vR (some v) :: vI i :: vR (some a) :: st) b (S, R, I, J) Q ↔ (0 ≤ i ∧ i < n) ∧ wpc k (j + 1) ls st b (S, upM R a i (some v), I, J) Q := by
  refine w_gd (c := decide (23 ≤ kd S a) && decide (kd S a ≤ 26) && decide (kd S v = elK (kd S a)) && inB S a i && (!frK (kd S a) || decide (i.toNat < frL S a))) ?_ (by rw [hf]; show gd _ (nx (j + 1) ls st b (if frK (kd S a) = true then _ else _)) = _; rw [hk, if_neg (by decide)])
  rw [hk, hv]
  simp only [Bool.and_eq_true, inB_iff hn, decide_eq_true_eq, Bool.or_eq_true]
  exact ⟨fun h => h.1.2, fun h => ⟨⟨⟨⟨by decide, by decide⟩, by decide⟩, h⟩, Or.inl (by decide)⟩⟩
theorem w_alen {a : Nat} {n : Int} (hf : opAt k j = (.arraylength, pl, ns, z, sw)) (hk : kd S a = 20 ∨ kd S a = 19) (hn : (ln S a : Int) = n) : wpc k j ls (vR (some a) :: st) b (S, R, I, J) Q ↔ wpc k (j + 1) ls (vI n :: st) b (S, R, I, J) Q := by
  subst hn
  refine wpc_nx (by rw [hf]; show gd (decide (19 ≤ kd S a) && decide (kd S a ≤ 22)) _ = _; rcases hk with h | h <;> rw [h] <;> rfl)
-- answers
theorem w_iret {v : Int} (hf : opAt k j = (.ireturn, pl, [0], z, sw)) {M : MM} : wpc k j ls [vI v] b M Q ↔ Q (some (vI v)) M := wpc_ret (by rw [hf]; rfl)
theorem w_zret {v : Int} (hf : opAt k j = (.ireturn, pl, [1], z, sw)) {M : MM} : wpc k j ls [vI v] b M Q ↔ (v = 0 ∨ v = 1) ∧ Q (some (vI v)) M := by
  have e1 : mstep (opAt k j) j ls [vI v] b M = gd (z01 v) (some (Sum.inr (Sum.inr (some (vI v))))) := by rw [hf]; rfl
  by_cases h : v = 0 ∨ v = 1
  · have h1 : z01 v = true := by unfold z01; rcases h with rfl | rfl <;> rfl
    rw [wpc_ret (v := some (vI v)) (by rw [e1, h1]; rfl)]
    exact ⟨fun q => ⟨h, q⟩, fun q => q.2⟩
  · have h1 : ¬ z01 v = true := by unfold z01; simp only [Bool.or_eq_true, decide_eq_true_eq]; exact h
    rw [wpc_no (by rw [e1]; unfold gd; rw [if_neg h1])]
    exact ⟨fun q => False.elim q, fun q => h q.1⟩
theorem w_zret1 {v : Int} (hf : opAt k j = (.ireturn, pl, [1], z, sw)) (hv : v = 0 ∨ v = 1) {M : MM} : wpc k j ls [vI v] b M Q ↔ Q (some (vI v)) M := (w_zret hf).trans ⟨fun q => q.2, fun q => ⟨hv, q⟩⟩
theorem w_lret {v : Int64} (hf : opAt k j = (.lreturn, pl, ns, z, sw)) {M : MM} : wpc k j ls [vL v] b M Q ↔ Q (some (vL v)) M := wpc_ret (by rw [hf]; rfl)
theorem w_aret {v : Option Nat} (hf : opAt k j = (.areturn, pl, ns, z, sw)) {M : MM} : wpc k j ls [vR v] b M Q ↔ Q (some (vR v)) M := wpc_ret (by rw [hf]; rfl)
theorem w_vret (hf : opAt k j = (.return_, pl, ns, z, sw)) {M : MM} : wpc k j ls [] b M Q ↔ Q none M := wpc_ret (by rw [hf]; rfl)
-- calls that make no cells, and the nop behind them
theorem w_cv {y a k' n ci ne mx : Nat} {as2 st' ls' : List MV} {pl2 : Nat × Nat} {ns2 : List Nat} {z2 : Int} {sw2 : List (Int × Nat)} (hf : opAt k j = (.invokevirtual y, pl, [k', n, ci, 0, 0, ne, mx], z, sw)) (h1 : st = (vR (some a) :: as2).reverse ++ st') (h2 : as2.length + 1 = n) (h3 : st'.length ≤ 4) (h4 : (flL (vR (some a) :: as2)).length ≤ mx) (hk : kd S a = ci) (hf2 : opAt k (j + 1) = (.nop, pl2, ns2, z2, sw2)) (h5 : killL ls ns2 = ls') : wpc k j ls st b (S, R, I, J) Q ↔ wpC k' (vR (some a) :: as2) (S, R, I, J) (fun v M2 => wpc k (j + 2) ls' (v.toList ++ st') b M2 Q) := by
  have e0 : st.take n = (vR (some a) :: as2).reverse := by rw [h1, List.take_append_of_le_length (by simp; omega), List.take_of_length_le (by simp; omega)]
  have e9 : st.drop n = st' := by rw [h1, List.drop_append_of_le_length (by simp; omega), List.drop_of_length_le (by simp; omega)]; rfl
  have e1 : mstep (opAt k j) j ls st b (S, R, I, J) = some (Sum.inr (Sum.inl (k', vR (some a) :: as2, (j + 1, ls, st', b, (S, R, I, J))))) := by
    rw [hf]
    show mInv k' n (some ci) 0 0 mx j ls st b (S, R, I, J) = _
    unfold mInv
    rw [e0, e9, List.reverse_reverse]
    have hl : n ≤ st.length := by rw [h1]; simp; omega
    simp only [hl, h3, h4, hk, decide_true, Nat.zero_le, Bool.and_self, gd, if_true]
    rfl
  rw [wpc_call e1]
  have e2 : (fun v M2 => wpc k (j + 1) ls (Option.toList v ++ st') b M2 Q) = (fun v M2 => wpc k (j + 2) ls' (Option.toList v ++ st') b M2 Q) := by
    funext v M2
    exact propext (wpc_nx (by rw [hf2]; subst h5; rfl))
  rw [e2]
theorem w_cs {y k' n ci ne mx : Nat} {as st' ls' : List MV} {pl2 : Nat × Nat} {ns2 : List Nat} {z2 : Int} {sw2 : List (Int × Nat)} (hf : opAt k j = (.invokestatic y, pl, [k', n, ci, 0, 0, ne, mx], z, sw)) (h1 : st = as.reverse ++ st') (h2 : as.length = n) (h3 : st'.length ≤ 4) (h4 : (flL as).length ≤ mx) (hf2 : opAt k (j + 1) = (.nop, pl2, ns2, z2, sw2)) (h5 : killL ls ns2 = ls') {M : MM} : wpc k j ls st b M Q ↔ wpC k' as M (fun v M2 => wpc k (j + 2) ls' (v.toList ++ st') b M2 Q) := by
  have e0 : st.take n = as.reverse := by rw [h1, List.take_append_of_le_length (by simp; omega), List.take_of_length_le (by simp; omega)]
  have e9 : st.drop n = st' := by rw [h1, List.drop_append_of_le_length (by simp; omega), List.drop_of_length_le (by simp; omega)]; rfl
  have e1 : mstep (opAt k j) j ls st b M = some (Sum.inr (Sum.inl (k', as, (j + 1, ls, st', b, M)))) := by
    rw [hf]
    show mInv k' n none 0 0 mx j ls st b M = _
    unfold mInv
    rw [e0, e9, List.reverse_reverse]
    have hl : n ≤ st.length := by rw [h1]; simp; omega
    simp only [hl, h3, h4, decide_true, Nat.zero_le, Bool.and_self, gd, if_true]
    rfl
  rw [wpc_call e1]
  have e2 : (fun v M2 => wpc k (j + 1) ls (Option.toList v ++ st') b M2 Q) = (fun v M2 => wpc k (j + 2) ls' (Option.toList v ++ st') b M2 Q) := by
    funext v M2
    exact propext (wpc_nx (by rw [hf2]; subst h5; rfl))
  rw [e2]
end RULES
