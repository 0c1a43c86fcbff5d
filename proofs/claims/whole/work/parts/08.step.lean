/-! ONE STEP, AND RUNS -/
def pm_n9 (v : pm_V) : Bool := match v with
  | .inr (.inl (κ, _)) => !(Nat.beq κ 999)
  | _ => true
/-- whose class the first of these is (100: any) -/
def pm_rv (κ : Nat) (as : List pm_V) : Bool := bif Nat.beq κ 100 then true else match as with
  | .inr (.inl (κ2, _)) :: _ => Nat.beq κ κ2
  | _ => false
def pm_ag (κ b : Nat) (as : List pm_V) : Bool := Nat.beq as.length b && as.all pm_n9 && pm_rv κ as.reverse
/-- how many words these take -/
def pm_wl : List pm_V → Nat
  | [] => 0
  | v :: vs => (bif pm_c2 v then 2 else 1) + pm_wl vs
/-- a field that holds a thing, an element that does -/
def pm_nd (κ j : Nat) : Bool := bif Nat.ble 1000 κ then Nat.ble 5000 κ && Nat.blt j (κ - 5000) else !(Nat.beq (pm_fk κ j) 0)
/-- a handler begins by putting what was thrown into a local -/
def pm_hs (e : pm_En) (k : Nat → Nat → Prop) : Prop := match e with
  | (.astore_n n, _) => k n.val 1
  | (.astore n, _) => k n 2
  | _ => False
/-- one instruction: what must hold so that P holds behind it, Qr of what is returned, Qx of what is thrown -/
def pm_stp (cd : Nat → pm_En) (hd : Nat → Nat → Nat) (lc lt : Nat) (mc ms kc : Nat → Nat) (cal : Nat → List pm_V → pm_Me → (Option pm_V → pm_Me → Prop) → (Nat → pm_Me → Prop) → Prop) (Qr : Option pm_V → pm_Me → Prop) (Qx : Nat → pm_Me → Prop) (s : pm_St) (P : pm_St → Prop) : Prop :=
  match s with
  | (pc, ls, st, m, c, t) => match cd pc with
    | (i, a, b, k) => match i with
      | .iconst n => bif Nat.beq a 77 then (∀ q, q < m.1.1 → ∀ j, pm_nd (m.1.2.1 q) j = true → m.1.2.2 q j = true) ∧ P (pc + 1, ls, .inl n :: st, ((m.1.1, m.1.2.1, fun _ _ => true), m.2), c, t) else P (pc + 1, ls, .inl n :: st, m, c, t)
      | .bipush n => P (pc + 2, ls, .inl n :: st, m, c, t)
      | .sipush n => P (pc + 3, ls, .inl n :: st, m, c, t)
      | .lconst n => P (pc + 1, ls, .inr (.inr (.inl (n.val : Int))) :: st, m, c, t)
      | .fconst _ => P (pc + 1, ls, .inr (.inr (.inr (.inl 0))) :: st, m, c, t)
      | .dconst _ => P (pc + 1, ls, .inr (.inr (.inr (.inr (UInt64.ofNat a)))) :: st, m, c, t)
      | .ldc2_w _ => P (pc + 3, ls, .inr (.inr (.inr (.inr (UInt64.ofNat a)))) :: st, m, c, t)
      | .iload_n n => pm_i (pm_lst (pm_ld ls n.val)) fun x _ => P (pc + 1, ls, .inl x :: st, m, c, t)
      | .iload n => pm_i (pm_lst (pm_ld ls n)) fun x _ => P (pc + 2, ls, .inl x :: st, m, c, t)
      | .aload_n n => pm_a (pm_lst (pm_ld ls n.val)) fun κ q _ => P (pc + 1, ls, .inr (.inl (κ, q)) :: st, m, c, t)
      | .aload n => pm_a (pm_lst (pm_ld ls n)) fun κ q _ => P (pc + 2, ls, .inr (.inl (κ, q)) :: st, m, c, t)
      | .fload n => pm_f (pm_lst (pm_ld ls n)) fun x _ => P (pc + 2, ls, .inr (.inr (.inr (.inl x))) :: st, m, c, t)
      | .dload_n n => pm_d (pm_lst (pm_ld ls n.val)) fun x _ => P (pc + 1, ls, .inr (.inr (.inr (.inr x))) :: st, m, c, t)
      | .dload n => pm_d (pm_lst (pm_ld ls n)) fun x _ => P (pc + 2, ls, .inr (.inr (.inr (.inr x))) :: st, m, c, t)
      | .istore_n n => pm_i st fun x st => P (pc + 1, pm_s1 ls n.val (.inl x), st, m, c, t)
      | .istore n => pm_i st fun x st => P (pc + 2, pm_s1 ls n (.inl x), st, m, c, t)
      | .astore_n n => pm_a st fun κ q st => P (pc + 1, pm_s1 ls n.val (.inr (.inl (κ, q))), st, m, c, t)
      | .astore n => pm_a st fun κ q st => P (pc + 2, pm_s1 ls n (.inr (.inl (κ, q))), st, m, c, t)
      | .fstore n => pm_f st fun x st => P (pc + 2, pm_s1 ls n (.inr (.inr (.inr (.inl x)))), st, m, c, t)
      | .dstore_n n => pm_d st fun x st => P (pc + 1, pm_s2 ls n.val (.inr (.inr (.inr (.inr x)))), st, m, c, t)
      | .dstore n => pm_d st fun x st => P (pc + 2, pm_s2 ls n (.inr (.inr (.inr (.inr x)))), st, m, c, t)
      | .iinc n z => pm_i (pm_lst (pm_ld ls n)) fun x _ => pm_r (x + z) ∧ P (pc + 3, pm_s1 ls n (.inl (x + z)), st, m, c, t)
      | .iadd => pm_i st fun y st => pm_i st fun x st => pm_r (x + y) ∧ P (pc + 1, ls, .inl (x + y) :: st, m, c, t)
      | .isub => pm_i st fun y st => pm_i st fun x st => pm_r (x - y) ∧ P (pc + 1, ls, .inl (x - y) :: st, m, c, t)
      | .imul => pm_i st fun y st => pm_i st fun x st => pm_r (x * y) ∧ P (pc + 1, ls, .inl (x * y) :: st, m, c, t)
      | .idiv => pm_i st fun y st => pm_i st fun x st => (0 ≤ x ∧ 0 < y) ∧ P (pc + 1, ls, .inl (x / y) :: st, m, c, t)
      | .irem => pm_i st fun y st => pm_i st fun x st => (0 ≤ x ∧ 0 < y) ∧ P (pc + 1, ls, .inl (x % y) :: st, m, c, t)
      | .iand => pm_i st fun y st => pm_i st fun x st => P (pc + 1, ls, .inl (pm_and x y) :: st, m, c, t)
      | .ior => pm_i st fun y st => pm_i st fun x st => P (pc + 1, ls, .inl (pm_or x y) :: st, m, c, t)
      | .ixor => pm_i st fun y st => pm_i st fun x st => P (pc + 1, ls, .inl (pm_xor x y) :: st, m, c, t)
      | .ishl => pm_i st fun y st => pm_i st fun x st => P (pc + 1, ls, .inl (pm_shl x y) :: st, m, c, t)
      | .ishr => pm_i st fun y st => pm_i st fun x st => P (pc + 1, ls, .inl (pm_shr x y) :: st, m, c, t)
      | .i2l => pm_i st fun x st => P (pc + 1, ls, .inr (.inr (.inl x)) :: st, m, c, t)
      | .i2f => pm_i st fun x st => P (pc + 1, ls, .inr (.inr (.inr (.inl (FP.i2f (Int32.ofInt x))))) :: st, m, c, t)
      | .i2d => pm_i st fun x st => P (pc + 1, ls, .inr (.inr (.inr (.inr (FP.i2d (Int32.ofInt x))))) :: st, m, c, t)
      | .f2d => pm_f st fun x st => vf_n64 (FP.f2d x) ∧ P (pc + 1, ls, .inr (.inr (.inr (.inr (FP.f2d x)))) :: st, m, c, t)
      | .fdiv => pm_f st fun y st => pm_f st fun x st => vf_n32 (FP.fdiv x y) ∧ P (pc + 1, ls, .inr (.inr (.inr (.inl (FP.fdiv x y)))) :: st, m, c, t)
      | .ddiv => pm_d st fun y st => pm_d st fun x st => vf_n64 (FP.ddiv x y) ∧ P (pc + 1, ls, .inr (.inr (.inr (.inr (FP.ddiv x y)))) :: st, m, c, t)
      | .dmul => pm_d st fun y st => pm_d st fun x st => vf_n64 (FP.dmul x y) ∧ P (pc + 1, ls, .inr (.inr (.inr (.inr (FP.dmul x y)))) :: st, m, c, t)
      | .dadd => pm_d st fun y st => pm_d st fun x st => vf_n64 (FP.dadd x y) ∧ P (pc + 1, ls, .inr (.inr (.inr (.inr (FP.dadd x y)))) :: st, m, c, t)
      | .lcmp => pm_l st fun y st => pm_l st fun x st => P (pc + 1, ls, .inl (pm_lcmp x y) :: st, m, c, t)
      | .dcmp o => pm_d st fun y st => pm_d st fun x st => P (pc + 1, ls, .inl (Op.cmpValue (FP.dcmp x y) o).toInt :: st, m, c, t)
      | .fcmp o => pm_f st fun y st => pm_f st fun x st => P (pc + 1, ls, .inl (Op.cmpValue (FP.fcmp x y) o).toInt :: st, m, c, t)
      | .dup => match st with
        | v :: st => bif pm_c2 v then False else P (pc + 1, ls, v :: v :: st, m, c, t)
        | _ => False
      | .dup2 => match st with
        | v :: w :: st => bif pm_c2 v || pm_c2 w then False else P (pc + 1, ls, v :: w :: v :: w :: st, m, c, t)
        | _ => False
      | .pop => match st with
        | v :: st => bif pm_c2 v then False else P (pc + 1, ls, st, m, c, t)
        | _ => False
      | .ifCond o _ => pm_i st fun x st => (pm_cmp o x 0 → P (a, ls, st, m, c, t)) ∧ (¬ pm_cmp o x 0 → P (pc + 3, ls, st, m, c, t))
      | .if_icmp o _ => pm_i st fun y st => pm_i st fun x st => (pm_cmp o x y → P (a, ls, st, m, c, t)) ∧ (¬ pm_cmp o x y → P (pc + 3, ls, st, m, c, t))
      | .goto _ => P (a, ls, st, m, c, t)
      | .tableswitch d lo hi offs => pm_i st fun x st => ((x < lo ∨ hi < x) → P (((pc : Int) + d).toNat, ls, st, m, c, t)) ∧ (¬ (x < lo ∨ hi < x) → ∀ o, offs[(x - lo).toNat]? = some o → P (((pc : Int) + o).toNat, ls, st, m, c, t))
      | .getfield _ => pm_a st fun κ q st => bif Nat.beq κ a then
          (bif Nat.beq (pm_fk a b) 0 then P (pc + 3, ls, .inl (m.2 q b) :: st, m, c, t)
           else bif m.1.2.2 q b then P (pc + 3, ls, .inr (.inl (pm_fk a b - 1, pm_rf a q b)) :: st, m, c, t) else False) else False
      | .putfield _ => bif Nat.beq (pm_fk a b) 0 then
          (pm_i st fun x st => pm_a st fun κ q st => bif Nat.beq κ a then pm_z k x (P (pc + 3, ls, st, (m.1, pm_up m.2 q b x), c, t)) else False)
        else
          (pm_a st fun κ' q' st => pm_a st fun κ q st => bif Nat.beq κ a && Nat.beq (pm_fk a b) (κ' + 1) then
            q' = pm_rf a q b ∧ P (pc + 3, ls, st, ((m.1.1, m.1.2.1, pm_ub m.1.2.2 q b), m.2), c, t) else False)
      | .iaload => pm_i st fun x st => pm_a st fun κ q st => bif Nat.beq κ 999 then
          (0 ≤ x ∧ x < m.2 9998 0) ∧ P (pc + 1, ls, .inl (m.2 9999 x.toNat) :: st, m, c, t)
        else bif Nat.ble 1000 κ && Nat.ble κ 1999 then (0 ≤ x ∧ x < ((κ - 1000 : Nat) : Int)) ∧ P (pc + 1, ls, .inl (m.2 q x.toNat) :: st, m, c, t) else False
      | .baload => pm_i st fun x st => pm_a st fun κ q st => bif Nat.ble 2000 κ && Nat.ble κ 2999 then (0 ≤ x ∧ x < ((κ - 2000 : Nat) : Int)) ∧ P (pc + 1, ls, .inl (m.2 q x.toNat) :: st, m, c, t) else False
      | .laload => pm_i st fun x st => pm_a st fun κ q st => bif Nat.ble 3000 κ && Nat.ble κ 3999 then (0 ≤ x ∧ x < ((κ - 3000 : Nat) : Int)) ∧ P (pc + 1, ls, .inr (.inr (.inl (m.2 q x.toNat))) :: st, m, c, t) else False
      | .daload => pm_i st fun x st => pm_a st fun κ q st => bif Nat.ble 4000 κ && Nat.ble κ 4999 then (0 ≤ x ∧ x < ((κ - 4000 : Nat) : Int)) ∧ P (pc + 1, ls, .inr (.inr (.inr (.inr (UInt64.ofNat (m.2 q x.toNat).toNat)))) :: st, m, c, t) else False
      | .aaload => pm_i st fun x st => pm_a st fun κ q st => bif Nat.ble 5000 κ && Nat.ble κ 5999 then (0 ≤ x ∧ x < ((κ - 5000 : Nat) : Int)) ∧ (bif m.1.2.2 q x.toNat then P (pc + 1, ls, .inr (.inl (6, pm_rf κ q x.toNat)) :: st, m, c, t) else False) else False
      | .iastore => pm_i st fun v st => pm_i st fun x st => pm_a st fun κ q st => bif Nat.ble 1000 κ && Nat.ble κ 1999 then (0 ≤ x ∧ x < ((κ - 1000 : Nat) : Int)) ∧ P (pc + 1, ls, st, (m.1, pm_up m.2 q x.toNat v), c, t) else False
      | .bastore => pm_i st fun v st => pm_i st fun x st => pm_a st fun κ q st => bif Nat.ble 2000 κ && Nat.ble κ 2999 then (v = 0 ∨ v = 1) ∧ (0 ≤ x ∧ x < ((κ - 2000 : Nat) : Int)) ∧ P (pc + 1, ls, st, (m.1, pm_up m.2 q x.toNat v), c, t) else False
      | .lastore => pm_l st fun v st => pm_i st fun x st => pm_a st fun κ q st => bif Nat.ble 3000 κ && Nat.ble κ 3999 then (0 ≤ x ∧ x < ((κ - 3000 : Nat) : Int)) ∧ P (pc + 1, ls, st, (m.1, pm_up m.2 q x.toNat v), c, t) else False
      | .dastore => pm_d st fun v st => pm_i st fun x st => pm_a st fun κ q st => bif Nat.ble 4000 κ && Nat.ble κ 4999 then (0 ≤ x ∧ x < ((κ - 4000 : Nat) : Int)) ∧ P (pc + 1, ls, st, (m.1, pm_up m.2 q x.toNat (v.toNat : Int)), c, t) else False
      | .aastore => pm_a st fun κ' q' st => pm_i st fun x st => pm_a st fun κ q st => bif Nat.beq κ' 6 && (Nat.ble 5000 κ && Nat.ble κ 5999) then (0 ≤ x ∧ x < ((κ - 5000 : Nat) : Int)) ∧ q' = pm_rf κ q x.toNat ∧ P (pc + 1, ls, st, ((m.1.1, m.1.2.1, pm_ub m.1.2.2 q x.toNat), m.2), c, t) else False
      | .arraylength => pm_a st fun κ _ st => bif Nat.beq κ 999 then P (pc + 1, ls, .inl (m.2 9998 0) :: st, m, c, t) else False
      | .new _ => bif Nat.beq k 1 then
          (bif (Nat.ble (c + 1) lc && Nat.ble (t + 6) lt) && Nat.ble st.length 8 then Qx a m else False)
        else bif Nat.ble (c + 1) lc && Nat.ble (t + pm_nf a) lt then
          m.1.1 < 9000 ∧ P (pc + 3, ls, .inr (.inl (a, m.1.1)) :: st, ((m.1.1 + 1, pm_kd m.1.2.1 m.1.1 a, pm_nb m.1.2.2 m.1.1), pm_nm m.2 m.1.1), c + 1, t + pm_nf a) else False
      | .newarray _ => pm_i st fun x st => bif Nat.ble (c + 1) lc && Nat.ble (t + x.toNat) lt then
          (0 ≤ x ∧ x < 1000 ∧ m.1.1 < 9000) ∧ P (pc + 2, ls, .inr (.inl (a + x.toNat, m.1.1)) :: st, ((m.1.1 + 1, pm_kd m.1.2.1 m.1.1 (a + x.toNat), pm_nb m.1.2.2 m.1.1), pm_nm m.2 m.1.1), c + 1, t + x.toNat) else False
      | .anewarray _ => pm_i st fun x st => bif Nat.ble (c + 1) lc && Nat.ble (t + x.toNat) lt then
          (0 ≤ x ∧ x < 1000 ∧ m.1.1 < 9000) ∧ P (pc + 3, ls, .inr (.inl (5000 + x.toNat, m.1.1)) :: st, ((m.1.1 + 1, pm_kd m.1.2.1 m.1.1 (5000 + x.toNat), pm_nb m.1.2.2 m.1.1), pm_nm m.2 m.1.1), c + 1, t + x.toNat) else False
      | .invokevirtual _ => bif (Nat.ble (c + mc a) lc && Nat.ble (t + ms a) lt) && (Nat.ble (st.drop b).length 4 && pm_ag (kc a) b (st.take b)) then
          cal a (st.take b).reverse m (fun r m' => P (pc + 3, ls, pm_lst r ++ st.drop b, m', c + mc a, t + ms a)) (fun E m' => bif Nat.ble 2 k then False else bif Nat.beq (hd pc E) 0 then Qx E m' else pm_hs (cd (hd pc E)) fun n j => P (hd pc E + j, pm_s0 ls n, [], m', c + mc a, t + ms a)) else False
      | .invokestatic _ => bif Nat.beq k 7 then
          (pm_i st fun y st => pm_i st fun x st => bif Nat.ble st.length 4 then P (pc + 3, ls, .inl (max x y) :: st, m, c, t) else False)
        else bif Nat.beq k 8 then
          (pm_i st fun n st => pm_i st fun y st => pm_a st fun κ' q' st => pm_i st fun x st => pm_a st fun κ q st => bif Nat.ble st.length 4 && ((Nat.ble 1000 κ && Nat.ble κ 1999) && (Nat.ble 1000 κ' && Nat.ble κ' 1999)) then
            (0 ≤ n ∧ 0 ≤ x ∧ 0 ≤ y ∧ x + n ≤ ((κ - 1000 : Nat) : Int) ∧ y + n ≤ ((κ' - 1000 : Nat) : Int) ∧ q ≠ q') ∧ P (pc + 3, ls, st, (m.1, pm_cp m.2 q x.toNat q' y.toNat n.toNat), c, t) else False)
        else bif (Nat.ble (c + mc a) lc && Nat.ble (t + ms a) lt) && (Nat.ble (st.drop b).length 4 && pm_ag (100) b (st.take b)) then
          cal a (st.take b).reverse m (fun r m' => P (pc + 3, ls, pm_lst r ++ st.drop b, m', c + mc a, t + ms a)) (fun E m' => bif Nat.ble 2 k then False else bif Nat.beq (hd pc E) 0 then Qx E m' else pm_hs (cd (hd pc E)) fun n j => P (hd pc E + j, pm_s0 ls n, [], m', c + mc a, t + ms a)) else False
      | .invokespecial _ => bif Nat.beq k 9 then
          (pm_a st fun _ _ st => bif Nat.ble st.length 4 then P (pc + 3, ls, st, m, c, t) else False)
        else bif (Nat.ble (c + mc a) lc && Nat.ble (t + ms a) lt) && (Nat.ble (st.drop b).length 4 && pm_ag (kc a) b (st.take b)) then
          cal a (st.take b).reverse m (fun r m' => P (pc + 3, ls, pm_lst r ++ st.drop b, m', c + mc a, t + ms a)) (fun E m' => bif Nat.ble 2 k then False else bif Nat.beq (hd pc E) 0 then Qx E m' else pm_hs (cd (hd pc E)) fun n j => P (hd pc E + j, pm_s0 ls n, [], m', c + mc a, t + ms a)) else False
      | .ireturn => match st with
        | [.inl x] => pm_z a x (Qr (some (.inl x)) m)
        | _ => False
      | .freturn => match st with
        | [.inr (.inr (.inr (.inl x)))] => Qr (some (.inr (.inr (.inr (.inl x))))) m
        | _ => False
      | .dreturn => match st with
        | [.inr (.inr (.inr (.inr x)))] => Qr (some (.inr (.inr (.inr (.inr x))))) m
        | _ => False
      | .return_ => match st with
        | [] => Qr none m
        | _ => False
      | _ => False
/-- less known of the locals -/
def pm_fg : List (Option pm_V) → List (Option pm_V) → Prop
  | [], [] => True
  | a :: l, b :: l' => (b = a ∨ b = none) ∧ pm_fg l l'
  | _, _ => False
/-- from here the machine comes to an end, every end as it must be -/
def pm_wp (lc lt : Nat) (stp : pm_St → (pm_St → Prop) → Prop) (s : pm_St) : Prop :=
  ∀ P : pm_St → Prop, (∀ (s : pm_St) (R : pm_St → Prop), (∀ s', R s' → P s') → stp s R → P s) →
    (∀ (pc : Nat) (ls ls' : List (Option pm_V)) (st : List pm_V) (m : pm_Me) (c t c' t' : Nat), pm_fg ls ls' → c ≤ c' → t ≤ t' → c' ≤ lc → t' ≤ lt → P (pc, ls', st, m, c', t') → P (pc, ls, st, m, c, t)) → P s
theorem pm_wp_of {lc lt : Nat} {stp : pm_St → (pm_St → Prop) → Prop} {s : pm_St} (R : pm_St → Prop) (hR : ∀ s', R s' → pm_wp lc lt stp s') (h : stp s R) : pm_wp lc lt stp s :=
  fun P h1 h2 => h1 s R (fun s' hs => hR s' hs P h1 h2) h
theorem pm_wp_fg {lc lt : Nat} {stp : pm_St → (pm_St → Prop) → Prop} {pc : Nat} {ls : List (Option pm_V)} {st : List pm_V} {m : pm_Me} {c t : Nat} (ls' : List (Option pm_V)) (c' t' : Nat) (hl : pm_fg ls ls') (hc : c ≤ c') (ht : t ≤ t') (hc2 : c' ≤ lc) (ht2 : t' ≤ lt) (h : pm_wp lc lt stp (pc, ls', st, m, c', t')) : pm_wp lc lt stp (pc, ls, st, m, c, t) :=
  fun P h1 h2 => h2 pc ls ls' st m c t c' t' hl hc ht hc2 ht2 (h P h1 h2)
/-- many instructions, up to a cut -/
def pm_seg (stp : pm_St → (pm_St → Prop) → Prop) (cut : Nat → Bool) : Nat → pm_St → (pm_St → Prop) → Prop
  | 0, s, P => P s
  | n + 1, s, P => stp s (fun s' => bif cut s'.1 then P s' else pm_seg stp cut n s' P)
theorem pm_seg_wp {lc lt : Nat} {stp : pm_St → (pm_St → Prop) → Prop} (cut : Nat → Bool) : ∀ (n : Nat) {s : pm_St}, pm_seg stp cut n s (pm_wp lc lt stp) → pm_wp lc lt stp s
  | 0, _, h => h
  | n + 1, s, h => by
    refine pm_wp_of _ (fun s' hs => ?_) h
    cases hc : cut s'.1 with
    | true => rw [hc] at hs; exact hs
    | false => rw [hc] at hs; exact pm_seg_wp cut n hs
/-- a call, with at most d calls one in the other -/
def pm_run : Nat → Nat → List pm_V → pm_Me → (Option pm_V → pm_Me → Prop) → (Nat → pm_Me → Prop) → Prop
  | 0, _, _, _, _, _ => False
  | d + 1, mi, as, m, Qr, Qx => bif Nat.ble (pm_wl as) (pm_ml mi) then pm_wp (pm_mc mi) (pm_ms mi) (pm_stp (pm_cd mi) (pm_hd mi) (pm_mc mi) (pm_ms mi) pm_mc pm_ms pm_kc (pm_run d) Qr Qx) (0, pm_lc (pm_ml mi) as, [], m, 0, 0) else False
abbrev pm_m (n : Nat) (kd : Nat → Nat) (M : Nat → Nat → Int) : pm_Me := ((n, kd, fun _ _ => true), M)
abbrev pm_sm (d mi : Nat) (Qr : Option pm_V → pm_Me → Prop) (Qx : Nat → pm_Me → Prop) : pm_St → (pm_St → Prop) → Prop := pm_stp (pm_cd mi) (pm_hd mi) (pm_mc mi) (pm_ms mi) pm_mc pm_ms pm_kc (pm_run d) Qr Qx
abbrev pm_wq (d mi : Nat) (Qr : Option pm_V → pm_Me → Prop) (Qx : Nat → pm_Me → Prop) : pm_St → Prop := pm_wp (pm_mc mi) (pm_ms mi) (pm_sm d mi Qr Qx)
