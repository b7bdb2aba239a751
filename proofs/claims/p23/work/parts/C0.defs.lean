/-! what must hold for each method to run and end in kappa -/
def m_sld (r : Option Nat) (sb L : Nat) (xs : Nat → Int32) (i : Int32) (κ : Int32 → Prop) : Prop := r = some sb ∧ vp_in i L ∧ κ (xs i.toNatClampNeg)
def m_slen (r : Option Nat) (sb L : Nat) (κ : Int32 → Prop) : Prop := r = some sb ∧ κ (Int32.ofNat L)
def wJ3_checkIndex_8e157 (κ : Int32 → mM → Prop) (l0 : Int32) (l1 : Int32) (l2 : Option Nat) (M : mM) : Prop :=
    ((l0 < 0 → False) ∧ (¬ (l0 < 0) → ((l0 < l1 → κ l0 M) ∧ (¬ (l0 < l1) → False))))
def wJ15_checkIndex_7cf53 (κ : Int32 → mM → Prop) (l0 : Int32) (l1 : Int32) (M : mM) : Prop :=
    wJ3_checkIndex_8e157 (fun x1 M2 => κ x1 M2) l0 l1 none M
def wJx4a65c_elementData_915e3 (κ : Option Nat → mM → Prop) (l0 : Option Nat) (l1 : Int32) (M : mM) : Prop :=
    m_gR M l0 4 1 fun x1 => m_ldR M x1 l1 2 fun x2 => κ x2 M
def wJx4a65c_size_8abf5 (κ : Int32 → mM → Prop) (l0 : Option Nat) (M : mM) : Prop :=
    m_gI M l0 4 2 fun x1 => κ x1 M
def wJx4a65c_isEmpty_aae02 (κ : Int32 → mM → Prop) (l0 : Option Nat) (M : mM) : Prop :=
    m_gI M l0 4 2 fun x1 => ((x1 = 0 → κ 1 M) ∧ (¬ (x1 = 0) → κ 0 M))
def wJx4a65c_get_915e3 (κ : Option Nat → mM → Prop) (l0 : Option Nat) (l1 : Int32) (M : mM) : Prop :=
    m_gI M l0 4 2 fun x1 => wJ15_checkIndex_7cf53 (fun x2 M3 => m_rc M3 l0 4 fun b6 => wJx4a65c_elementData_915e3 (fun x4 M5 => κ x4 M5) (some b6) l1 M3) l1 x1 M
def wJ8_newLength_cabcc_21 (κ : Int32 → mM → Prop) (l0 : Int32) (l1 : Int32) (M : mM) : Prop :=
    False
def wJ8_newLength_cabcc (κ : Int32 → mM → Prop) (l0 : Int32) (l1 : Int32) (l2 : Int32) (M : mM) : Prop :=
    (((l0 + (m_max l1 l2)) ≤ 0 → wJ8_newLength_cabcc_21 κ l0 l1 M) ∧ (¬ ((l0 + (m_max l1 l2)) ≤ 0) → ((2147483639 < (l0 + (m_max l1 l2)) → wJ8_newLength_cabcc_21 κ l0 l1 M) ∧ (¬ (2147483639 < (l0 + (m_max l1 l2))) → κ (l0 + (m_max l1 l2)) M))))
def wJ7_copyOf_6403c_24 (g : Nat → Nat) (B : Nat) (κ : Option Nat → mM → Prop) (l0 : Option Nat) (l1 : Int32) (s0 : Option Nat) (M : mM) : Prop :=
    m_len M l0 fun x1 => m_copyR M l0 0 s0 0 (m_min x1 l1) fun M2 => κ s0 M2
def wJ7_copyOf_6403c (g : Nat → Nat) (B : Nat) (κ : Option Nat → mM → Prop) (l0 : Option Nat) (l1 : Int32) (l2 : Option Nat) (M : mM) : Prop :=
    ((l2 = (some (g 4)) → m_newR M 2 l1 B fun q2 M3 => wJ7_copyOf_6403c_24 g B κ l0 l1 (some q2) M3) ∧ (¬ (l2 = (some (g 4))) → False))
def wJ7_copyOf_1904c (g : Nat → Nat) (B : Nat) (κ : Option Nat → mM → Prop) (l0 : Option Nat) (l1 : Int32) (M : mM) : Prop :=
    ((∃ a v, l0 = some a ∧ M a = some (.inl (2, v))) ∧ wJ7_copyOf_6403c g B (fun x1 M2 => κ x1 M2) l0 l1 (some (g 4)) M)
def wJx4a65c_grow_92f84_20 (g : Nat → Nat) (B : Nat) (κ : Option Nat → mM → Prop) (l0 : Option Nat) (l1 : Int32) (l2 : Int32) (M : mM) : Prop :=
    wJ8_newLength_cabcc (fun x1 M2 => m_gR M2 l0 4 1 fun x3 => wJ7_copyOf_1904c g B (fun x4 M5 => m_p M5 l0 4 1 (va_rf x4) fun M6 => κ x4 M6) x3 x1 M2) l2 (l1 - l2) (m_shr l2 1) M
def wJx4a65c_grow_92f84 (g : Nat → Nat) (B : Nat) (κ : Option Nat → mM → Prop) (l0 : Option Nat) (l1 : Int32) (M : mM) : Prop :=
    m_gR M l0 4 1 fun x1 => m_len M x1 fun x2 => ((0 < x2 → wJx4a65c_grow_92f84_20 g B κ l0 l1 x2 M) ∧ (¬ (0 < x2) → m_gR M l0 4 1 fun x4 => ((x4 = (some (g 0)) → m_newR M 2 (m_max 10 l1) B fun q6 M7 => m_p M7 l0 4 1 (va_rf (some q6)) fun M8 => κ (some q6) M8) ∧ (¬ (x4 = (some (g 0))) → wJx4a65c_grow_92f84_20 g B κ l0 l1 x2 M))))
def wJx4a65c_grow_d5877 (g : Nat → Nat) (B : Nat) (κ : Option Nat → mM → Prop) (l0 : Option Nat) (M : mM) : Prop :=
    m_gI M l0 4 2 fun x1 => m_rc M l0 4 fun b4 => wJx4a65c_grow_92f84 g B (fun x2 M3 => κ x2 M3) (some b4) (x1 + 1) M
def wJx4a65c_add_72be8_11 (g : Nat → Nat) (B : Nat) (κ : mM → Prop) (l0 : Option Nat) (l1 : Option Nat) (l2 : Option Nat) (l3 : Int32) (M : mM) : Prop :=
    m_stR M l2 l3 l1 2 fun M1 => m_p M1 l0 4 2 (.int (l3 + 1)) fun M2 => κ M2
def wJx4a65c_add_72be8 (g : Nat → Nat) (B : Nat) (κ : mM → Prop) (l0 : Option Nat) (l1 : Option Nat) (l2 : Option Nat) (l3 : Int32) (M : mM) : Prop :=
    m_len M l2 fun x1 => ((l3 = x1 → m_rc M l0 4 fun b5 => wJx4a65c_grow_d5877 g B (fun x3 M4 => wJx4a65c_add_72be8_11 g B κ l0 l1 x3 l3 M4) (some b5) M) ∧ (¬ (l3 = x1) → wJx4a65c_add_72be8_11 g B κ l0 l1 l2 l3 M))
def wJx4a65c_add_9ea2d (g : Nat → Nat) (B : Nat) (κ : Int32 → mM → Prop) (l0 : Option Nat) (l1 : Option Nat) (M : mM) : Prop :=
    m_gI M l0 4 0 fun x1 => m_p M l0 4 0 (.int (x1 + 1)) fun M2 => m_gR M2 l0 4 1 fun x3 => m_gI M2 l0 4 2 fun x4 => m_rc M2 l0 4 fun b6 => wJx4a65c_add_72be8 g B (fun M5 => κ 1 M5) (some b6) l1 x3 x4 M2
def wJx4a65c_rangeCheckForAdd_d00df (κ : mM → Prop) (l0 : Option Nat) (l1 : Int32) (M : mM) : Prop :=
    m_gI M l0 4 2 fun x1 => ((x1 < l1 → False) ∧ (¬ (x1 < l1) → ((0 ≤ l1 → κ M) ∧ (¬ (0 ≤ l1) → False))))
def wJx4a65c_add_7a177_38 (g : Nat → Nat) (B : Nat) (κ : mM → Prop) (l0 : Option Nat) (l1 : Int32) (l2 : Option Nat) (l3 : Int32) (l4 : Option Nat) (M : mM) : Prop :=
    m_copyR M l4 l1 l4 (l1 + 1) (l3 - l1) fun M1 => m_stR M1 l4 l1 l2 2 fun M2 => m_p M2 l0 4 2 (.int (l3 + 1)) fun M3 => κ M3
def wJx4a65c_add_7a177 (g : Nat → Nat) (B : Nat) (κ : mM → Prop) (l0 : Option Nat) (l1 : Int32) (l2 : Option Nat) (M : mM) : Prop :=
    m_rc M l0 4 fun b2 => wJx4a65c_rangeCheckForAdd_d00df (fun M1 => m_gI M1 l0 4 0 fun x3 => m_p M1 l0 4 0 (.int (x3 + 1)) fun M4 => m_gI M4 l0 4 2 fun x5 => m_gR M4 l0 4 1 fun x6 => m_len M4 x6 fun x7 => ((x5 = x7 → m_rc M4 l0 4 fun b11 => wJx4a65c_grow_d5877 g B (fun x9 M10 => wJx4a65c_add_7a177_38 g B κ l0 l1 l2 x5 x9 M10) (some b11) M4) ∧ (¬ (x5 = x7) → wJx4a65c_add_7a177_38 g B κ l0 l1 l2 x5 x6 M4))) (some b2) l1 M
def wJx4a65c_fastRemove_b59b0_34 (κ : mM → Prop) (l0 : Option Nat) (l1 : Option Nat) (l3 : Int32) (M : mM) : Prop :=
    m_p M l0 4 2 (.int l3) fun M1 => m_stR M1 l1 l3 none 2 fun M2 => κ M2
def wJx4a65c_fastRemove_b59b0 (κ : mM → Prop) (l0 : Option Nat) (l1 : Option Nat) (l2 : Int32) (M : mM) : Prop :=
    m_gI M l0 4 0 fun x1 => m_p M l0 4 0 (.int (x1 + 1)) fun M2 => m_gI M2 l0 4 2 fun x3 => (((x3 - 1) ≤ l2 → wJx4a65c_fastRemove_b59b0_34 κ l0 l1 (x3 - 1) M2) ∧ (¬ ((x3 - 1) ≤ l2) → m_copyR M2 l1 (l2 + 1) l1 l2 ((x3 - 1) - l2) fun M5 => wJx4a65c_fastRemove_b59b0_34 κ l0 l1 (x3 - 1) M5))
def wJx4a65c_remove_915e3 (κ : Option Nat → mM → Prop) (l0 : Option Nat) (l1 : Int32) (M : mM) : Prop :=
    m_gI M l0 4 2 fun x1 => wJ15_checkIndex_7cf53 (fun x2 M3 => m_gR M3 l0 4 1 fun x4 => m_ldR M3 x4 l1 2 fun x5 => m_rc M3 l0 4 fun b7 => wJx4a65c_fastRemove_b59b0 (fun M6 => κ x5 M6) (some b7) x4 l1 M3) l1 x1 M
def wJxa1e45_init_da8c8 (κ : mM → Prop) (l0 : Option Nat) (M : mM) : Prop :=
    ∃ b9 : Nat, l0 = some b9 ∧ κ M
def wJxc12de_init_da8c8 (κ : mM → Prop) (l0 : Option Nat) (M : mM) : Prop :=
    m_rc M l0 4 fun b2 => wJxa1e45_init_da8c8 (fun M1 => m_p M1 l0 4 0 (.int 0) fun M3 => κ M3) (some b2) M
def wJx4a65c_init_da8c8 (g : Nat → Nat) (κ : mM → Prop) (l0 : Option Nat) (M : mM) : Prop :=
    m_rc M l0 4 fun b2 => wJxc12de_init_da8c8 (fun M1 => m_p M1 l0 4 1 (va_rf (some (g 0))) fun M3 => κ M3) (some b2) M
def wJ6_valueOf_2dffe_23 (g : Nat → Nat) (κ : Option Nat → mM → Prop) (l0 : Int32) (M : mM) : Prop :=
    False
def wJ6_valueOf_2dffe (g : Nat → Nat) (κ : Option Nat → mM → Prop) (l0 : Int32) (M : mM) : Prop :=
    ((l0 < (-128) → wJ6_valueOf_2dffe_23 g κ l0 M) ∧ (¬ (l0 < (-128)) → ((127 < l0 → wJ6_valueOf_2dffe_23 g κ l0 M) ∧ (¬ (127 < l0) → m_ldR M (some (g 1)) (l0 + 128) 8 fun x3 => κ x3 M))))
def wJ6_intValue_8abf5 (κ : Int32 → mM → Prop) (l0 : Option Nat) (M : mM) : Prop :=
    m_gI M l0 2 0 fun x1 => κ x1 M
def wJ13_bitCount_95d88 (κ : Int32 → mM → Prop) (l0 : Int64) (M : mM) : Prop :=
    κ ((Int64.toInt32 ((((((((l0 - ((m_lushr l0 1) &&& 6148914691236517205)) &&& 3689348814741910323) + ((m_lushr (l0 - ((m_lushr l0 1) &&& 6148914691236517205)) 2) &&& 3689348814741910323)) + (m_lushr (((l0 - ((m_lushr l0 1) &&& 6148914691236517205)) &&& 3689348814741910323) + ((m_lushr (l0 - ((m_lushr l0 1) &&& 6148914691236517205)) 2) &&& 3689348814741910323)) 4)) &&& 1085102592571150095) + (m_lushr (((((l0 - ((m_lushr l0 1) &&& 6148914691236517205)) &&& 3689348814741910323) + ((m_lushr (l0 - ((m_lushr l0 1) &&& 6148914691236517205)) 2) &&& 3689348814741910323)) + (m_lushr (((l0 - ((m_lushr l0 1) &&& 6148914691236517205)) &&& 3689348814741910323) + ((m_lushr (l0 - ((m_lushr l0 1) &&& 6148914691236517205)) 2) &&& 3689348814741910323)) 4)) &&& 1085102592571150095) 8)) + (m_lushr ((((((l0 - ((m_lushr l0 1) &&& 6148914691236517205)) &&& 3689348814741910323) + ((m_lushr (l0 - ((m_lushr l0 1) &&& 6148914691236517205)) 2) &&& 3689348814741910323)) + (m_lushr (((l0 - ((m_lushr l0 1) &&& 6148914691236517205)) &&& 3689348814741910323) + ((m_lushr (l0 - ((m_lushr l0 1) &&& 6148914691236517205)) 2) &&& 3689348814741910323)) 4)) &&& 1085102592571150095) + (m_lushr (((((l0 - ((m_lushr l0 1) &&& 6148914691236517205)) &&& 3689348814741910323) + ((m_lushr (l0 - ((m_lushr l0 1) &&& 6148914691236517205)) 2) &&& 3689348814741910323)) + (m_lushr (((l0 - ((m_lushr l0 1) &&& 6148914691236517205)) &&& 3689348814741910323) + ((m_lushr (l0 - ((m_lushr l0 1) &&& 6148914691236517205)) 2) &&& 3689348814741910323)) 4)) &&& 1085102592571150095) 8)) 16)) + (m_lushr (((((((l0 - ((m_lushr l0 1) &&& 6148914691236517205)) &&& 3689348814741910323) + ((m_lushr (l0 - ((m_lushr l0 1) &&& 6148914691236517205)) 2) &&& 3689348814741910323)) + (m_lushr (((l0 - ((m_lushr l0 1) &&& 6148914691236517205)) &&& 3689348814741910323) + ((m_lushr (l0 - ((m_lushr l0 1) &&& 6148914691236517205)) 2) &&& 3689348814741910323)) 4)) &&& 1085102592571150095) + (m_lushr (((((l0 - ((m_lushr l0 1) &&& 6148914691236517205)) &&& 3689348814741910323) + ((m_lushr (l0 - ((m_lushr l0 1) &&& 6148914691236517205)) 2) &&& 3689348814741910323)) + (m_lushr (((l0 - ((m_lushr l0 1) &&& 6148914691236517205)) &&& 3689348814741910323) + ((m_lushr (l0 - ((m_lushr l0 1) &&& 6148914691236517205)) 2) &&& 3689348814741910323)) 4)) &&& 1085102592571150095) 8)) + (m_lushr ((((((l0 - ((m_lushr l0 1) &&& 6148914691236517205)) &&& 3689348814741910323) + ((m_lushr (l0 - ((m_lushr l0 1) &&& 6148914691236517205)) 2) &&& 3689348814741910323)) + (m_lushr (((l0 - ((m_lushr l0 1) &&& 6148914691236517205)) &&& 3689348814741910323) + ((m_lushr (l0 - ((m_lushr l0 1) &&& 6148914691236517205)) 2) &&& 3689348814741910323)) 4)) &&& 1085102592571150095) + (m_lushr (((((l0 - ((m_lushr l0 1) &&& 6148914691236517205)) &&& 3689348814741910323) + ((m_lushr (l0 - ((m_lushr l0 1) &&& 6148914691236517205)) 2) &&& 3689348814741910323)) + (m_lushr (((l0 - ((m_lushr l0 1) &&& 6148914691236517205)) &&& 3689348814741910323) + ((m_lushr (l0 - ((m_lushr l0 1) &&& 6148914691236517205)) 2) &&& 3689348814741910323)) 4)) &&& 1085102592571150095) 8)) 16)) 32))) &&& 127) M
def wJx35411_init_45d68 (κ : mM → Prop) (l0 : Option Nat) (l1 : Option Nat) (M : mM) : Prop :=
    m_p M l0 3 3 (va_rf l1) fun M1 => ∃ b9 : Nat, l0 = some b9 ∧ m_p M1 l0 3 1 (.int (-1)) fun M2 => m_gR M2 l0 3 3 fun x3 => m_gI M2 x3 4 0 fun x4 => m_p M2 l0 3 2 (.int x4) fun M5 => κ M5
def wJx4a65c_iterator_32c93 (κ : Option Nat → mM → Prop) (l0 : Option Nat) (M : mM) : Prop :=
    m_new M 3 [.int 0, .int 0, .int 0, .null] fun q1 M2 => m_rc M2 (some q1) 3 fun b4 => wJx35411_init_45d68 (fun M3 => κ (some q1) M3) (some b4) l0 M2
def wJx35411_hasNext_aae02 (κ : Int32 → mM → Prop) (l0 : Option Nat) (M : mM) : Prop :=
    m_gI M l0 3 0 fun x1 => m_gR M l0 3 3 fun x2 => m_gI M x2 4 2 fun x3 => ((x1 = x3 → κ 0 M) ∧ (¬ (x1 = x3) → κ 1 M))
def wJx35411_checkForComodification_da8c8 (κ : mM → Prop) (l0 : Option Nat) (M : mM) : Prop :=
    m_gR M l0 3 3 fun x1 => m_gI M x1 4 0 fun x2 => m_gI M l0 3 2 fun x3 => ((x2 = x3 → κ M) ∧ (¬ (x2 = x3) → False))
def wJx35411_next_0502b (κ : Option Nat → mM → Prop) (l0 : Option Nat) (M : mM) : Prop :=
    m_rc M l0 3 fun b2 => wJx35411_checkForComodification_da8c8 (fun M1 => m_gI M1 l0 3 0 fun x3 => m_gR M1 l0 3 3 fun x4 => m_gI M1 x4 4 2 fun x5 => ((x3 < x5 → m_gR M1 l0 3 3 fun x7 => m_gR M1 x7 4 1 fun x8 => m_len M1 x8 fun x9 => ((x3 < x9 → m_p M1 l0 3 0 (.int (x3 + 1)) fun M11 => m_p M11 l0 3 1 (.int x3) fun M12 => m_ldR M12 x8 x3 2 fun x13 => κ x13 M12) ∧ (¬ (x3 < x9) → False))) ∧ (¬ (x3 < x5) → False))) (some b2) M
def wX7_init (κ : mM → Prop) (l0 : Option Nat) (M : mM) : Prop :=
    ∃ b9 : Nat, l0 = some b9 ∧ κ M
def wX0_init (g : Nat → Nat) (κ : mM → Prop) (l0 : Option Nat) (l1 : Int32) (l2 : Option Nat) (l3 : Option Nat) (l4 : Int32) (l5 : Int32) (M : mM) : Prop :=
    ∃ b9 : Nat, l0 = some b9 ∧ m_new M 4 [.int 0, .null, .int 0] fun q1 M2 => m_rc M2 (some q1) 4 fun b4 => wJx4a65c_init_da8c8 g (fun M3 => m_p M3 l0 5 5 (va_rf (some q1)) fun M5 => m_new M5 12 [.long 0, .long 0] fun q6 M7 => m_rc M7 (some q6) 12 fun b9 => wX7_init (fun M8 => m_p M8 l0 5 6 (va_rf (some q6)) fun M10 => m_new M10 12 [.long 0, .long 0] fun q11 M12 => m_rc M12 (some q11) 12 fun b14 => wX7_init (fun M13 => m_p M13 l0 5 7 (va_rf (some q11)) fun M15 => m_p M15 l0 5 8 (.int 5) fun M16 => m_p M16 l0 5 0 (.int l1) fun M17 => m_p M17 l0 5 1 (va_rf l2) fun M18 => m_p M18 l0 5 2 (va_rf l3) fun M19 => m_p M19 l0 5 3 (.int l4) fun M20 => m_p M20 l0 5 4 (.int l5) fun M21 => κ M21) (some b14) M12) (some b9) M7) (some b4) M2
def wX0_isOpenAt (κ : Int32 → mM → Prop) (l0 : Option Nat) (l1 : Int32) (M : mM) : Prop :=
    m_gI M l0 5 3 fun x1 => m_gI M l0 5 4 fun x2 => ((x2 ≤ (m_rem ((l1 - x1) + 24) 24) → κ 0 M) ∧ (¬ (x2 ≤ (m_rem ((l1 - x1) + 24) 24)) → κ 1 M))
def wX0_dozes (κ : Int32 → mM → Prop) (l0 : Option Nat) (M : mM) : Prop :=
    m_gI M l0 5 9 fun x1 => ((x1 < 5 → κ 0 M) ∧ (¬ (x1 < 5) → κ 1 M))
def wX0_isAt (κ : Int32 → mM → Prop) (l0 : Option Nat) (l1 : Option Nat) (M : mM) : Prop :=
    m_gR M l0 5 1 fun x1 => ((l1 = x1 → κ 1 M) ∧ (¬ (l1 = x1) → m_gR M l0 5 2 fun x3 => ((l1 = x3 → κ 1 M) ∧ (¬ (l1 = x3) → κ 0 M))))
def wX0_across (κ : Option Nat → mM → Prop) (l0 : Option Nat) (l1 : Option Nat) (M : mM) : Prop :=
    m_gR M l0 5 1 fun x1 => ((l1 = x1 → m_gR M l0 5 2 fun x4 => κ x4 M) ∧ (¬ (l1 = x1) → m_gR M l0 5 1 fun x3 => κ x3 M))
def wX0_babiesInLine_35 (κ : Int32 → mM → Prop) (R4 : Option Nat → Int32 → Int32 → mM → Prop) (l0 : Option Nat) (l1 : Int32) (l2 : Int32) (M : mM) : Prop :=
    R4 l0 l1 (l2 + 1) M
def wX0_babiesInLine_4 (κ : Int32 → mM → Prop) : Nat → Option Nat → Int32 → Int32 → mM → Prop
  | 0 => fun _ _ _ _ => False
  | f + 1 => fun (l0 : Option Nat) (l1 : Int32) (l2 : Int32) (M : mM) =>
    m_gR M l0 5 5 fun x1 => m_rc M x1 4 fun b4 => wJx4a65c_size_8abf5 (fun x2 M3 => ((x2 ≤ l2 → κ l1 M3) ∧ (¬ (x2 ≤ l2) → m_gR M3 l0 5 5 fun x6 => m_rc M3 x6 4 fun b9 => wJx4a65c_get_915e3 (fun x7 M8 => m_cast M8 x7 11 (m_gI M8 x7 11 1 fun x10 => ((x10 = 0 → wX0_babiesInLine_35 κ (wX0_babiesInLine_4 κ f) l0 l1 l2 M8) ∧ (¬ (x10 = 0) → wX0_babiesInLine_35 κ (wX0_babiesInLine_4 κ f) l0 (l1 + 1) l2 M8)))) (some b9) l2 M3))) (some b4) M
def wX0_babiesInLine (κ : Int32 → mM → Prop) (l0 : Option Nat) (M : mM) : Prop :=
    ∃ u : Nat, wX0_babiesInLine_4 κ u l0 0 0 M
def wX0_babiesAreAhead_51 (κ : Int32 → mM → Prop) (R2 : Option Nat → Int32 → mM → Prop) (l0 : Option Nat) (l1 : Int32) (M : mM) : Prop :=
    R2 l0 (l1 + 1) M
def wX0_babiesAreAhead_2 (κ : Int32 → mM → Prop) : Nat → Option Nat → Int32 → mM → Prop
  | 0 => fun _ _ _ => False
  | f + 1 => fun (l0 : Option Nat) (l1 : Int32) (M : mM) =>
    m_gR M l0 5 5 fun x1 => m_rc M x1 4 fun b4 => wJx4a65c_size_8abf5 (fun x2 M3 => ((x2 ≤ l1 → κ 1 M3) ∧ (¬ (x2 ≤ l1) → m_gR M3 l0 5 5 fun x6 => m_rc M3 x6 4 fun b9 => wJx4a65c_get_915e3 (fun x7 M8 => m_cast M8 x7 11 (m_gI M8 x7 11 1 fun x10 => ((x10 = 0 → wX0_babiesAreAhead_51 κ (wX0_babiesAreAhead_2 κ f) l0 l1 M8) ∧ (¬ (x10 = 0) → m_gR M8 l0 5 5 fun x12 => m_rc M8 x12 4 fun b15 => wJx4a65c_get_915e3 (fun x13 M14 => m_cast M14 x13 11 (m_gI M14 x13 11 1 fun x16 => ((x16 = 0 → κ 0 M14) ∧ (¬ (x16 = 0) → wX0_babiesAreAhead_51 κ (wX0_babiesAreAhead_2 κ f) l0 l1 M14)))) (some b15) (l1 - 1) M8)))) (some b9) l1 M3))) (some b4) M
def wX0_babiesAreAhead (κ : Int32 → mM → Prop) (l0 : Option Nat) (M : mM) : Prop :=
    ∃ u : Nat, wX0_babiesAreAhead_2 κ u l0 1 M
def wX0_timesInLine_30 (κ : Int32 → mM → Prop) (R4 : Option Nat → Option Nat → Int32 → Int32 → mM → Prop) (l0 : Option Nat) (l1 : Option Nat) (l2 : Int32) (l3 : Int32) (M : mM) : Prop :=
    R4 l0 l1 l2 (l3 + 1) M
def wX0_timesInLine_4 (κ : Int32 → mM → Prop) : Nat → Option Nat → Option Nat → Int32 → Int32 → mM → Prop
  | 0 => fun _ _ _ _ _ => False
  | f + 1 => fun (l0 : Option Nat) (l1 : Option Nat) (l2 : Int32) (l3 : Int32) (M : mM) =>
    m_gR M l0 5 5 fun x1 => m_rc M x1 4 fun b4 => wJx4a65c_size_8abf5 (fun x2 M3 => ((x2 ≤ l3 → κ l2 M3) ∧ (¬ (x2 ≤ l3) → m_gR M3 l0 5 5 fun x6 => m_rc M3 x6 4 fun b9 => wJx4a65c_get_915e3 (fun x7 M8 => ((x7 = l1 → wX0_timesInLine_30 κ (wX0_timesInLine_4 κ f) l0 l1 (l2 + 1) l3 M8) ∧ (¬ (x7 = l1) → wX0_timesInLine_30 κ (wX0_timesInLine_4 κ f) l0 l1 l2 l3 M8))) (some b9) l3 M3))) (some b4) M
def wX0_timesInLine (κ : Int32 → mM → Prop) (l0 : Option Nat) (l1 : Option Nat) (M : mM) : Prop :=
    ∃ u : Nat, wX0_timesInLine_4 κ u l0 l1 0 0 M
def wX1_init (κ : mM → Prop) (l0 : Option Nat) (l1 : Option Nat) (l2 : Int32) (l3 : Int32) (M : mM) : Prop :=
    ∃ b9 : Nat, l0 = some b9 ∧ m_p M l0 6 0 (va_rf l1) fun M1 => m_p M1 l0 6 1 (.int l2) fun M2 => m_p M2 l0 6 2 (.int l3) fun M3 => κ M3
def wX2_init (κ : mM → Prop) (l0 : Option Nat) (l1 : Int32) (M : mM) : Prop :=
    ∃ b9 : Nat, l0 = some b9 ∧ m_p M l0 7 1 (.int 10) fun M1 => m_p M1 l0 7 2 (.int 20) fun M2 => m_p M2 l0 7 3 (.int 5) fun M3 => m_p M3 l0 7 0 (.int l1) fun M4 => κ M4
def wX2_dutyOn (κ : Int32 → mM → Prop) (l0 : Option Nat) (l1 : Int32) (M : mM) : Prop :=
    m_gI M l0 7 2 fun x1 => ((x1 < l1 → m_gI M l0 7 2 fun x3 => m_gI M l0 7 1 fun x4 => κ (((l1 - x3) * x4) / 100) M) ∧ (¬ (x1 < l1) → κ 0 M))
def wX3_init (κ : mM → Prop) (l0 : Option Nat) (l1 : Int32) (l2 : Option Nat) (l3 : Int32) (l4 : Int32) (l5 : Int32) (M : mM) : Prop :=
    ∃ b9 : Nat, l0 = some b9 ∧ m_p M l0 8 0 (.int l1) fun M1 => m_p M1 l0 8 5 (va_rf l2) fun M2 => m_p M2 l0 8 1 (.int l3) fun M3 => m_p M3 l0 8 2 (.int l4) fun M4 => m_p M4 l0 8 3 (.int l5) fun M5 => κ M5
def wX3_isNightmare (κ : Int32 → mM → Prop) (l0 : Option Nat) (M : mM) : Prop :=
    m_gI M l0 8 3 fun x1 => ((x1 < 5 → κ 0 M) ∧ (¬ (x1 < 5) → κ 1 M))
def wX3_isIn (κ : Int32 → mM → Prop) (l0 : Option Nat) (l1 : Int32) (M : mM) : Prop :=
    m_gI M l0 8 0 fun x1 => ((((m_shr l1 x1) &&& 1) = 0 → κ 0 M) ∧ (¬ (((m_shr l1 x1) &&& 1) = 0) → κ 1 M))
def wX3_isHidden (κ : Int32 → mM → Prop) (l0 : Option Nat) (M : mM) : Prop :=
    m_gR M l0 8 5 fun x1 => ((x1 = none → κ 0 M) ∧ (¬ (x1 = none) → m_gR M l0 8 5 fun x3 => m_gI M x3 11 6 fun x4 => m_rc M l0 8 fun b7 => wX3_isIn (fun x5 M6 => ((x5 = 0 → κ 1 M6) ∧ (¬ (x5 = 0) → κ 0 M6))) (some b7) x4 M))
def wX3_whereabouts (κ : Option Nat → mM → Prop) (l0 : Option Nat) (M : mM) : Prop :=
    m_gR M l0 8 6 fun x1 => ((x1 = none → m_gR M l0 8 5 fun x3 => ((x3 = none → κ none M) ∧ (¬ (x3 = none) → m_gR M l0 8 5 fun x5 => m_gR M x5 11 2 fun x6 => κ x6 M))) ∧ (¬ (x1 = none) → m_gR M l0 8 6 fun x7 => κ x7 M))
def wX3_putInStore (κ : mM → Prop) (l0 : Option Nat) (l1 : Option Nat) (l2 : Int32) (M : mM) : Prop :=
    m_p M l0 8 5 (va_rf none) fun M1 => m_p M1 l0 8 6 (va_rf l1) fun M2 => m_p M2 l0 8 4 (.int l2) fun M3 => κ M3
def wX4_init (κ : mM → Prop) (l0 : Option Nat) (l1 : Option Nat) (l2 : Int32) (l3 : Int32) (M : mM) : Prop :=
    ∃ b9 : Nat, l0 = some b9 ∧ m_p M l0 9 0 (va_rf l1) fun M1 => m_p M1 l0 9 1 (.int l2) fun M2 => m_p M2 l0 9 2 (.int l3) fun M3 => κ M3
def wX5_init (κ : mM → Prop) (l0 : Option Nat) (M : mM) : Prop :=
    ∃ b9 : Nat, l0 = some b9 ∧ m_p M l0 10 1 (.int 3) fun M1 => κ M1
def wX5_draw (κ : Int32 → mM → Prop) (l0 : Option Nat) (M : mM) : Prop :=
    m_gI M l0 10 1 fun x1 => m_p M l0 10 1 (.int (m_rem ((21 * x1) + 11) 4096)) fun M2 => m_gI M2 l0 10 0 fun x3 => m_p M2 l0 10 0 (.int (x3 + 1)) fun M4 => κ x1 M4
def wX6_init (κ : mM → Prop) (l0 : Option Nat) (l1 : Int32) (l2 : Option Nat) (l3 : Int32) (l4 : Int32) (M : mM) : Prop :=
    ∃ b9 : Nat, l0 = some b9 ∧ m_p M l0 11 4 (.int 0) fun M1 => m_p M1 l0 11 0 (.int l1) fun M2 => m_p M2 l0 11 2 (va_rf l2) fun M3 => m_pZ M3 l0 11 1 l3 fun M4 => m_p M4 l0 11 3 (.int l4) fun M5 => κ M5
def wX6_standAt (κ : mM → Prop) (l0 : Option Nat) (l1 : Option Nat) (l2 : Int32) (M : mM) : Prop :=
    m_p M l0 11 4 (.int 1) fun M1 => m_p M1 l0 11 5 (va_rf l1) fun M2 => m_p M2 l0 11 6 (.int l2) fun M3 => κ M3
def wX6_stepOut (κ : mM → Prop) (l0 : Option Nat) (l1 : Int32) (M : mM) : Prop :=
    m_p M l0 11 4 (.int l1) fun M1 => m_p M1 l0 11 5 (va_rf none) fun M2 => m_p M2 l0 11 6 (.int 0) fun M3 => κ M3
def wX7_has_24 (κ : Int32 → mM → Prop) (s0 : Int64) (M : mM) : Prop :=
    (((lg_cmp (s0 &&& 1) 0) = 0 → κ 0 M) ∧ (¬ ((lg_cmp (s0 &&& 1) 0) = 0) → κ 1 M))
def wX7_has (κ : Int32 → mM → Prop) (l0 : Option Nat) (l1 : Int32) (M : mM) : Prop :=
    ((64 ≤ l1 → m_gJ M l0 12 1 fun x2 => wX7_has_24 κ (m_lushr x2 (l1 - 64)) M) ∧ (¬ (64 ≤ l1) → m_gJ M l0 12 0 fun x3 => wX7_has_24 κ (m_lushr x3 l1) M))
def wX7_put (κ : mM → Prop) (l0 : Option Nat) (l1 : Int32) (M : mM) : Prop :=
    ((64 ≤ l1 → m_gJ M l0 12 1 fun x2 => m_p M l0 12 1 (.long (x2 ||| (m_lshl 1 (l1 - 64)))) fun M3 => κ M3) ∧ (¬ (64 ≤ l1) → m_gJ M l0 12 0 fun x4 => m_p M l0 12 0 (.long (x4 ||| (m_lshl 1 l1))) fun M5 => κ M5))
def wX7_putAll (κ : mM → Prop) (l0 : Option Nat) (l1 : Option Nat) (M : mM) : Prop :=
    m_gJ M l0 12 0 fun x1 => m_gJ M l1 12 0 fun x2 => m_p M l0 12 0 (.long (x1 ||| x2)) fun M3 => m_gJ M3 l0 12 1 fun x4 => m_gJ M3 l1 12 1 fun x5 => m_p M3 l0 12 1 (.long (x4 ||| x5)) fun M6 => κ M6
def wX7_size (κ : Int32 → mM → Prop) (l0 : Option Nat) (M : mM) : Prop :=
    m_gJ M l0 12 0 fun x1 => wJ13_bitCount_95d88 (fun x2 M3 => m_gJ M3 l0 12 1 fun x4 => wJ13_bitCount_95d88 (fun x5 M6 => κ (x2 + x5) M6) x4 M3) x1 M
def wX9_init (κ : mM → Prop) (l0 : Option Nat) (M : mM) : Prop :=
    ∃ b9 : Nat, l0 = some b9 ∧ κ M
def wX10_init (g : Nat → Nat) (κ : mM → Prop) (l0 : Option Nat) (M : mM) : Prop :=
    ∃ b9 : Nat, l0 = some b9 ∧ m_p M l0 15 4 (.int 5) fun M1 => m_new M1 4 [.int 0, .null, .int 0] fun q2 M3 => m_rc M3 (some q2) 4 fun b5 => wJx4a65c_init_da8c8 g (fun M4 => m_p M4 l0 15 6 (va_rf (some q2)) fun M6 => m_newI M6 1 97 97 fun q7 M8 => m_p M8 l0 15 7 (va_rf (some q7)) fun M9 => κ M9) (some b5) M3
def wX10_isOpen (κ : Int32 → mM → Prop) (l0 : Option Nat) (l1 : Int32) (M : mM) : Prop :=
    m_gI M l0 15 2 fun x1 => m_gI M l0 15 3 fun x2 => ((x2 ≤ (m_rem ((l1 + 24) - x1) 24) → κ 0 M) ∧ (¬ (x2 ≤ (m_rem ((l1 + 24) - x1) 24)) → κ 1 M))
def wX10_dozes (κ : Int32 → mM → Prop) (l0 : Option Nat) (M : mM) : Prop :=
    m_gI M l0 15 5 fun x1 => ((x1 < 5 → κ 0 M) ∧ (¬ (x1 < 5) → κ 1 M))
def wX10_has (κ : Int32 → mM → Prop) (l0 : Option Nat) (l1 : Int32) (M : mM) : Prop :=
    m_gI M l0 15 0 fun x1 => ((x1 = l1 → κ 1 M) ∧ (¬ (x1 = l1) → m_gI M l0 15 1 fun x3 => ((x3 = l1 → κ 1 M) ∧ (¬ (x3 = l1) → κ 0 M))))
def wX10_beyond (κ : Int32 → mM → Prop) (l0 : Option Nat) (l1 : Int32) (M : mM) : Prop :=
    m_gI M l0 15 0 fun x1 => ((x1 = l1 → m_gI M l0 15 1 fun x4 => κ x4 M) ∧ (¬ (x1 = l1) → m_gI M l0 15 0 fun x3 => κ x3 M))
def wX10_place_2 (κ : Int32 → mM → Prop) : Nat → Option Nat → Int32 → Int32 → mM → Prop
  | 0 => fun _ _ _ _ => False
  | f + 1 => fun (l0 : Option Nat) (l1 : Int32) (l2 : Int32) (M : mM) =>
    m_gR M l0 15 6 fun x1 => m_rc M x1 4 fun b4 => wJx4a65c_size_8abf5 (fun x2 M3 => ((x2 ≤ l2 → κ (-1) M3) ∧ (¬ (x2 ≤ l2) → m_gR M3 l0 15 6 fun x6 => m_rc M3 x6 4 fun b9 => wJx4a65c_get_915e3 (fun x7 M8 => m_cast M8 x7 2 (m_rc M8 x7 2 fun b12 => wJ6_intValue_8abf5 (fun x10 M11 => ((x10 = l1 → κ l2 M11) ∧ (¬ (x10 = l1) → (wX10_place_2 κ f) l0 l1 (l2 + 1) M11))) (some b12) M8)) (some b9) l2 M3))) (some b4) M
def wX10_place (κ : Int32 → mM → Prop) (l0 : Option Nat) (l1 : Int32) (M : mM) : Prop :=
    ∃ u : Nat, wX10_place_2 κ u l0 l1 0 M
def wX11_init (κ : mM → Prop) (l0 : Option Nat) (M : mM) : Prop :=
    ∃ b9 : Nat, l0 = some b9 ∧ m_p M l0 16 0 (.int 10) fun M1 => m_p M1 l0 16 1 (.int 20) fun M2 => m_p M2 l0 16 2 (.int 5) fun M3 => κ M3
def wX12_init (κ : mM → Prop) (l0 : Option Nat) (M : mM) : Prop :=
    ∃ b9 : Nat, l0 = some b9 ∧ m_p M l0 17 5 (.int (-1)) fun M1 => κ M1
def wX12_isNightmare (κ : Int32 → mM → Prop) (l0 : Option Nat) (M : mM) : Prop :=
    m_gI M l0 17 2 fun x1 => ((x1 < 5 → κ 0 M) ∧ (¬ (x1 < 5) → κ 1 M))
def wX13_init (κ : mM → Prop) (l0 : Option Nat) (M : mM) : Prop :=
    ∃ b9 : Nat, l0 = some b9 ∧ m_p M l0 18 4 (.int (-1)) fun M1 => m_p M1 l0 18 6 (.int (-1)) fun M2 => m_p M2 l0 18 8 (.int (-1)) fun M3 => κ M3
def wX8_landNumbered_10 (κ : Option Nat → mM → Prop) (ξ : String → mM → Prop) (M : mM) : Prop :=
    ξ "java/lang/IndexOutOfBoundsException" M
def wX8_landNumbered (κ : Option Nat → mM → Prop) (ξ : String → mM → Prop) (l0 : Option Nat) (l1 : Int32) (M : mM) : Prop :=
    ((l1 < 0 → wX8_landNumbered_10 κ ξ M) ∧ (¬ (l1 < 0) → ((l1 < 6 → m_gR M l0 13 0 fun x3 => m_ldR M x3 l1 3 fun x4 => κ x4 M) ∧ (¬ (l1 < 6) → wX8_landNumbered_10 κ ξ M))))
def wX8_demandRange_10 (κ : mM → Prop) (ξ : String → mM → Prop) (M : mM) : Prop :=
    ξ "java/lang/IllegalArgumentException" M
def wX8_demandRange (κ : mM → Prop) (ξ : String → mM → Prop) (l0 : Int32) (l1 : Int32) (l2 : Int32) (M : mM) : Prop :=
    ((l0 < l1 → wX8_demandRange_10 κ ξ M) ∧ (¬ (l0 < l1) → ((l0 ≤ l2 → κ M) ∧ (¬ (l0 ≤ l2) → wX8_demandRange_10 κ ξ M))))
def wX8_land (κ : Int32 → mM → Prop) (ξ : String → mM → Prop) (l0 : Option Nat) (l1 : Int32) (l2 : Int32) (l3 : Int32) (M : mM) : Prop :=
    m_rc M l0 13 fun b3 => wX8_landNumbered (fun x1 M2 => wX8_demandRange (fun M4 => wX8_demandRange (fun M5 => m_gI M5 x1 7 1 fun x6 => m_p M5 x1 7 1 (.int l2) fun M7 => m_p M7 x1 7 2 (.int l3) fun M8 => κ x6 M8) ξ l3 0 99 M4) ξ l2 0 50 M2) ξ (some b3) l1 M
def wX8_trade_23 (κ : Int32 → mM → Prop) (ξ : String → mM → Prop) (M : mM) : Prop :=
    ξ "java/lang/IllegalArgumentException" M
def wX8_trade_54 (κ : Int32 → mM → Prop) (ξ : String → mM → Prop) (M : mM) : Prop :=
    ξ "java/lang/IllegalStateException" M
def wX8_trade (κ : Int32 → mM → Prop) (ξ : String → mM → Prop) (l0 : Option Nat) (l1 : Int32) (l2 : Int32) (l3 : Int32) (M : mM) : Prop :=
    m_rc M l0 13 fun b3 => wX8_landNumbered (fun x1 M2 => m_rc M2 l0 13 fun b6 => wX8_landNumbered (fun x4 M5 => ((l1 = l2 → wX8_trade_23 κ ξ M5) ∧ (¬ (l1 = l2) → ((0 ≤ l3 → m_gI M5 x1 7 3 fun x9 => ((x9 < l3 → wX8_trade_54 κ ξ M5) ∧ (¬ (x9 < l3) → m_gI M5 x4 7 3 fun x11 => (((x11 + l3) ≤ 30 → m_gI M5 x1 7 3 fun x13 => m_p M5 x1 7 3 (.int (x13 - l3)) fun M14 => m_gI M14 x4 7 3 fun x15 => m_p M14 x4 7 3 (.int (x15 + l3)) fun M16 => m_gI M16 x4 7 3 fun x17 => κ x17 M16) ∧ (¬ ((x11 + l3) ≤ 30) → wX8_trade_54 κ ξ M5))))) ∧ (¬ (0 ≤ l3) → wX8_trade_23 κ ξ M5))))) ξ (some b6) l2 M2) ξ (some b3) l1 M
def wX8_gate (g : Nat → Nat) (κ : Int32 → mM → Prop) (ξ : String → mM → Prop) (l0 : Option Nat) (l1 : Int32) (l2 : Int32) (l3 : Int32) (l4 : Int32) (M : mM) : Prop :=
    m_rc M l0 13 fun b3 => wX8_landNumbered (fun x1 M2 => m_rc M2 l0 13 fun b6 => wX8_landNumbered (fun x4 M5 => ((l1 = l2 → ξ "java/lang/IllegalArgumentException" M5) ∧ (¬ (l1 = l2) → wX8_demandRange (fun M8 => wX8_demandRange (fun M9 => m_gR M9 l0 13 1 fun x10 => m_rc M9 x10 4 fun b13 => wJx4a65c_size_8abf5 (fun x11 M12 => ((x11 < 8 → m_new M12 5 [.int 0, .null, .null, .int 0, .int 0, .null, .null, .null, .int 0, .int 0] fun q15 M16 => m_gR M16 l0 13 1 fun x17 => m_rc M16 x17 4 fun b20 => wJx4a65c_size_8abf5 (fun x18 M19 => m_rc M19 (some q15) 5 fun b22 => wX0_init g (fun M21 => m_gR M21 l0 13 1 fun x23 => m_rc M21 x23 4 fun b26 => wJx4a65c_add_9ea2d g 10 (fun x24 M25 => m_gI M25 (some q15) 5 0 fun x27 => κ x27 M25) (some b26) (some q15) M21) (some b22) x18 x1 x4 l3 l4 M19) (some b20) M16) ∧ (¬ (x11 < 8) → ξ "java/lang/IllegalStateException" M12))) (some b13) M9) ξ l4 1 24 M8) ξ l3 0 23 M5))) ξ (some b6) l2 M2) ξ (some b3) l1 M
def wX8_gateNumbered_15 (κ : Option Nat → mM → Prop) (ξ : String → mM → Prop) (M : mM) : Prop :=
    ξ "java/lang/IndexOutOfBoundsException" M
def wX8_gateNumbered (κ : Option Nat → mM → Prop) (ξ : String → mM → Prop) (l0 : Option Nat) (l1 : Int32) (M : mM) : Prop :=
    ((l1 < 0 → wX8_gateNumbered_15 κ ξ M) ∧ (¬ (l1 < 0) → m_gR M l0 13 1 fun x2 => m_rc M x2 4 fun b5 => wJx4a65c_size_8abf5 (fun x3 M4 => ((l1 < x3 → m_gR M4 l0 13 1 fun x7 => m_rc M4 x7 4 fun b10 => wJx4a65c_get_915e3 (fun x8 M9 => m_cast M9 x8 5 (κ x8 M9)) (some b10) l1 M4) ∧ (¬ (l1 < x3) → wX8_gateNumbered_15 κ ξ M4))) (some b5) M))
def wX8_odds (κ : Int32 → mM → Prop) (ξ : String → mM → Prop) (l0 : Option Nat) (l1 : Int32) (l2 : Int32) (M : mM) : Prop :=
    m_rc M l0 13 fun b3 => wX8_gateNumbered (fun x1 M2 => wX8_demandRange (fun M4 => m_gI M4 x1 5 8 fun x5 => m_p M4 x1 5 8 (.int l2) fun M6 => κ x5 M6) ξ l2 0 10 M2) ξ (some b3) l1 M
def wX8_relieve (κ : Int32 → mM → Prop) (ξ : String → mM → Prop) (l0 : Option Nat) (l1 : Int32) (M : mM) : Prop :=
    m_rc M l0 13 fun b3 => wX8_gateNumbered (fun x1 M2 => m_gI M2 x1 5 9 fun x4 => m_p M2 x1 5 9 (.int 0) fun M5 => κ x4 M5) ξ (some b3) l1 M
def wX8_sleeper (g : Nat → Nat) (κ : Int32 → mM → Prop) (ξ : String → mM → Prop) (l0 : Option Nat) (l1 : Int32) (l2 : Int32) (l3 : Int32) (M : mM) : Prop :=
    m_rc M l0 13 fun b3 => wX8_landNumbered (fun x1 M2 => wX8_demandRange (fun M4 => m_gR M4 l0 13 2 fun x5 => m_rc M4 x5 4 fun b8 => wJx4a65c_size_8abf5 (fun x6 M7 => ((x6 < 12 → m_new M7 11 [.int 0, .int 0, .null, .int 0, .int 0, .null, .int 0, .null, .int 0] fun q10 M11 => m_gR M11 l0 13 2 fun x12 => m_rc M11 x12 4 fun b15 => wJx4a65c_size_8abf5 (fun x13 M14 => m_rc M14 (some q10) 11 fun b17 => wX6_init (fun M16 => m_gR M16 l0 13 2 fun x18 => m_rc M16 x18 4 fun b21 => wJx4a65c_add_9ea2d g 15 (fun x19 M20 => m_gI M20 (some q10) 11 0 fun x22 => κ x22 M20) (some b21) (some q10) M16) (some b17) x13 x1 l2 l3 M14) (some b15) M11) ∧ (¬ (x6 < 12) → ξ "java/lang/IllegalStateException" M7))) (some b8) M4) ξ l3 1 9 M2) ξ (some b3) l1 M
def wX8_sleeperNumbered_15 (κ : Option Nat → mM → Prop) (ξ : String → mM → Prop) (M : mM) : Prop :=
    ξ "java/lang/IndexOutOfBoundsException" M
def wX8_sleeperNumbered (κ : Option Nat → mM → Prop) (ξ : String → mM → Prop) (l0 : Option Nat) (l1 : Int32) (M : mM) : Prop :=
    ((l1 < 0 → wX8_sleeperNumbered_15 κ ξ M) ∧ (¬ (l1 < 0) → m_gR M l0 13 2 fun x2 => m_rc M x2 4 fun b5 => wJx4a65c_size_8abf5 (fun x3 M4 => ((l1 < x3 → m_gR M4 l0 13 2 fun x7 => m_rc M4 x7 4 fun b10 => wJx4a65c_get_915e3 (fun x8 M9 => m_cast M9 x8 11 (κ x8 M9)) (some b10) l1 M4) ∧ (¬ (l1 < x3) → wX8_sleeperNumbered_15 κ ξ M4))) (some b5) M))
def wX8_part_49 (g : Nat → Nat) (κ : Int32 → mM → Prop) (ξ : String → mM → Prop) (M : mM) : Prop :=
    ξ "java/lang/IllegalStateException" M
def wX8_part (g : Nat → Nat) (κ : Int32 → mM → Prop) (ξ : String → mM → Prop) (l0 : Option Nat) (l1 : Int32) (l2 : Int32) (l3 : Int32) (l4 : Int32) (M : mM) : Prop :=
    m_rc M l0 13 fun b3 => wX8_sleeperNumbered (fun x1 M2 => wX8_demandRange (fun M4 => wX8_demandRange (fun M5 => wX8_demandRange (fun M6 => m_gR M6 l0 13 3 fun x7 => m_rc M6 x7 4 fun b10 => wJx4a65c_size_8abf5 (fun x8 M9 => ((24 ≤ x8 → wX8_part_49 g κ ξ M9) ∧ (¬ (24 ≤ x8) → m_gI M9 x1 11 4 fun x12 => ((x12 = 0 → m_new M9 8 [.int 0, .int 0, .int 0, .int 0, .int 0, .null, .null, .null] fun q14 M15 => m_gR M15 l0 13 3 fun x16 => m_rc M15 x16 4 fun b19 => wJx4a65c_size_8abf5 (fun x17 M18 => m_rc M18 (some q14) 8 fun b21 => wX3_init (fun M20 => m_gR M20 l0 13 3 fun x22 => m_rc M20 x22 4 fun b25 => wJx4a65c_add_9ea2d g 33 (fun x23 M24 => m_gI M24 (some q14) 8 0 fun x26 => κ x26 M24) (some b25) (some q14) M20) (some b21) x17 x1 l2 l3 l4 M18) (some b19) M15) ∧ (¬ (x12 = 0) → wX8_part_49 g κ ξ M9))))) (some b10) M6) ξ l4 0 9 M5) ξ l3 0 99 M4) ξ l2 0 7 M2) ξ (some b3) l1 M
def wX8_partNumbered_15 (κ : Option Nat → mM → Prop) (ξ : String → mM → Prop) (M : mM) : Prop :=
    ξ "java/lang/IndexOutOfBoundsException" M
def wX8_partNumbered (κ : Option Nat → mM → Prop) (ξ : String → mM → Prop) (l0 : Option Nat) (l1 : Int32) (M : mM) : Prop :=
    ((l1 < 0 → wX8_partNumbered_15 κ ξ M) ∧ (¬ (l1 < 0) → m_gR M l0 13 3 fun x2 => m_rc M x2 4 fun b5 => wJx4a65c_size_8abf5 (fun x3 M4 => ((l1 < x3 → m_gR M4 l0 13 3 fun x7 => m_rc M4 x7 4 fun b10 => wJx4a65c_get_915e3 (fun x8 M9 => m_cast M9 x8 8 (κ x8 M9)) (some b10) l1 M4) ∧ (¬ (l1 < x3) → wX8_partNumbered_15 κ ξ M4))) (some b5) M))
def wX8_give_31 (κ : Int32 → mM → Prop) (ξ : String → mM → Prop) (M : mM) : Prop :=
    ξ "java/lang/IllegalStateException" M
def wX8_give_70 (κ : Int32 → mM → Prop) (ξ : String → mM → Prop) (M : mM) : Prop :=
    ξ "java/lang/IllegalStateException" M
def wX8_give (κ : Int32 → mM → Prop) (ξ : String → mM → Prop) (l0 : Option Nat) (l1 : Int32) (l2 : Int32) (M : mM) : Prop :=
    m_rc M l0 13 fun b3 => wX8_partNumbered (fun x1 M2 => m_rc M2 l0 13 fun b6 => wX8_sleeperNumbered (fun x4 M5 => m_gR M5 x1 8 5 fun x7 => ((x7 = none → wX8_give_31 κ ξ M5) ∧ (¬ (x7 = none) → ((x7 = x4 → wX8_give_31 κ ξ M5) ∧ (¬ (x7 = x4) → m_gR M5 x7 11 2 fun x10 => m_gR M5 x4 11 2 fun x11 => ((x10 = x11 → m_gI M5 x7 11 4 fun x13 => ((x13 = 0 → m_gI M5 x4 11 4 fun x15 => ((x15 = 0 → m_p M5 x1 8 5 (va_rf x4) fun M17 => m_gI M17 x7 11 0 fun x18 => κ x18 M17) ∧ (¬ (x15 = 0) → wX8_give_70 κ ξ M5))) ∧ (¬ (x13 = 0) → wX8_give_70 κ ξ M5))) ∧ (¬ (x10 = x11) → wX8_give_70 κ ξ M5))))))) ξ (some b6) l2 M2) ξ (some b3) l1 M
def wX8_rightVerse (κ : Int32 → mM → Prop) (l0 : Option Nat) (l1 : Option Nat) (l2 : Int32) (M : mM) : Prop :=
    m_gI M l0 11 0 fun x1 => m_gI M l1 5 0 fun x2 => κ (m_rem (((13 * x1) + (29 * x2)) + (7 * l2)) 97) M
def wX8_sing (κ : Int32 → mM → Prop) (ξ : String → mM → Prop) (l0 : Option Nat) (l1 : Int32) (l2 : Int32) (l3 : Int32) (l4 : Int32) (M : mM) : Prop :=
    m_rc M l0 13 fun b3 => wX8_sleeperNumbered (fun x1 M2 => m_rc M2 l0 13 fun b6 => wX8_gateNumbered (fun x4 M5 => m_gI M5 l0 13 8 fun x7 => wX8_demandRange (fun M8 => wX8_demandRange (fun M9 => m_new M9 9 [.null, .int 0, .int 0] fun q10 M11 => m_rc M11 (some q10) 9 fun b13 => wX4_init (fun M12 => m_p M12 x1 11 7 (va_rf (some q10)) fun M14 => wX8_rightVerse (fun x15 M16 => κ x15 M16) x1 x4 l3 M14) (some b13) x4 l3 l4 M11) ξ l4 0 96 M8) ξ l3 x7 99 M5) ξ (some b6) l2 M2) ξ (some b3) l1 M
def wX8_revoke_29 (κ : Int32 → mM → Prop) (ξ : String → mM → Prop) (l2 : Int32) (l3 : Option Nat) (s0 : Int32) (M : mM) : Prop :=
    m_gR M l3 5 6 fun x1 => m_rc M x1 12 fun b3 => wX7_put (fun M2 => ((s0 = 0 ∨ s0 = 1) ∧ κ s0 M2)) (some b3) l2 M
def wX8_revoke (κ : Int32 → mM → Prop) (ξ : String → mM → Prop) (l0 : Option Nat) (l1 : Int32) (l2 : Int32) (M : mM) : Prop :=
    m_rc M l0 13 fun b3 => wX8_gateNumbered (fun x1 M2 => wX8_demandRange (fun M4 => m_gR M4 x1 5 6 fun x5 => m_rc M4 x5 12 fun b8 => wX7_has (fun x6 M7 => ((x6 = 0 → wX8_revoke_29 κ ξ l2 x1 1 M7) ∧ (¬ (x6 = 0) → wX8_revoke_29 κ ξ l2 x1 0 M7))) (some b8) l2 M4) ξ l2 0 96 M2) ξ (some b3) l1 M
def wX8_headOf_47 (κ : Int32 → mM → Prop) (R4 : Option Nat → Option Nat → Int32 → Int32 → mM → Prop) (l0 : Option Nat) (l1 : Option Nat) (l2 : Int32) (l3 : Int32) (M : mM) : Prop :=
    R4 l0 l1 l2 (l3 + 1) M
def wX8_headOf_4 (κ : Int32 → mM → Prop) : Nat → Option Nat → Option Nat → Int32 → Int32 → mM → Prop
  | 0 => fun _ _ _ _ _ => False
  | f + 1 => fun (l0 : Option Nat) (l1 : Option Nat) (l2 : Int32) (l3 : Int32) (M : mM) =>
    m_gR M l0 13 3 fun x1 => m_rc M x1 4 fun b4 => wJx4a65c_size_8abf5 (fun x2 M3 => ((x2 ≤ l3 → κ l2 M3) ∧ (¬ (x2 ≤ l3) → m_gR M3 l0 13 3 fun x6 => m_rc M3 x6 4 fun b9 => wJx4a65c_get_915e3 (fun x7 M8 => m_cast M8 x7 8 (m_gR M8 x7 8 5 fun x10 => ((x10 = l1 → m_gI M8 x7 8 0 fun x12 => wX8_headOf_47 κ (wX8_headOf_4 κ f) l0 l1 (l2 ||| (m_shl 1 x12)) l3 M8) ∧ (¬ (x10 = l1) → wX8_headOf_47 κ (wX8_headOf_4 κ f) l0 l1 l2 l3 M8)))) (some b9) l3 M3))) (some b4) M
def wX8_headOf (κ : Int32 → mM → Prop) (l0 : Option Nat) (l1 : Option Nat) (M : mM) : Prop :=
    ∃ u : Nat, wX8_headOf_4 κ u l0 l1 0 0 M
def wX8_join_31 (g : Nat → Nat) (κ : Int32 → mM → Prop) (ξ : String → mM → Prop) (M : mM) : Prop :=
    ξ "java/lang/IllegalArgumentException" M
def wX8_join_62 (g : Nat → Nat) (κ : Int32 → mM → Prop) (ξ : String → mM → Prop) (M : mM) : Prop :=
    ξ "java/lang/IllegalStateException" M
def wX8_join_96 (g : Nat → Nat) (κ : Int32 → mM → Prop) (ξ : String → mM → Prop) (l3 : Int32) (l4 : Option Nat) (l5 : Option Nat) (s0 : Int32) (M : mM) : Prop :=
    m_gR M l5 5 5 fun x1 => m_rc M x1 4 fun b3 => wJx4a65c_add_7a177 g 15 (fun M2 => m_rc M2 l4 11 fun b5 => wX6_standAt (fun M4 => κ s0 M4) (some b5) l5 l3 M2) (some b3) s0 l4 M
def wX8_join (g : Nat → Nat) (κ : Int32 → mM → Prop) (ξ : String → mM → Prop) (l0 : Option Nat) (l1 : Int32) (l2 : Int32) (l3 : Int32) (M : mM) : Prop :=
    m_rc M l0 13 fun b3 => wX8_sleeperNumbered (fun x1 M2 => m_rc M2 l0 13 fun b6 => wX8_gateNumbered (fun x4 M5 => ((l3 < 0 → wX8_join_31 g κ ξ M5) ∧ (¬ (l3 < 0) → m_rc M5 l0 13 fun b10 => wX8_headOf (fun x8 M9 => (((l3 &&& (x8 ^^^ (-1))) = 0 → m_gI M9 x1 11 4 fun x12 => ((x12 = 0 → m_gR M9 x1 11 2 fun x14 => m_rc M9 x4 5 fun b17 => wX0_isAt (fun x15 M16 => ((x15 = 0 → wX8_join_62 g κ ξ M16) ∧ (¬ (x15 = 0) → m_gI M16 x1 11 1 fun x19 => ((x19 = 0 → m_gR M16 x4 5 5 fun x21 => m_rc M16 x21 4 fun b24 => wJx4a65c_size_8abf5 (fun x22 M23 => wX8_join_96 g κ ξ l3 x1 x4 x22 M23) (some b24) M16) ∧ (¬ (x19 = 0) → m_rc M16 x4 5 fun b27 => wX0_babiesInLine (fun x25 M26 => wX8_join_96 g κ ξ l3 x1 x4 x25 M26) (some b27) M16))))) (some b17) x14 M9) ∧ (¬ (x12 = 0) → wX8_join_62 g κ ξ M9))) ∧ (¬ ((l3 &&& (x8 ^^^ (-1))) = 0) → wX8_join_31 g κ ξ M9))) (some b10) x1 M5))) ξ (some b6) l2 M2) ξ (some b3) l1 M
def wX8_placeOf_19 (κ : Int32 → mM → Prop) : Nat → Option Nat → Option Nat → Int32 → mM → Prop
  | 0 => fun _ _ _ _ => False
  | f + 1 => fun (l0 : Option Nat) (l1 : Option Nat) (l2 : Int32) (M : mM) =>
    m_rc M l1 4 fun b3 => wJx4a65c_size_8abf5 (fun x1 M2 => ((x1 ≤ l2 → κ (-1) M2) ∧ (¬ (x1 ≤ l2) → m_rc M2 l1 4 fun b7 => wJx4a65c_get_915e3 (fun x5 M6 => ((x5 = l0 → κ l2 M6) ∧ (¬ (x5 = l0) → (wX8_placeOf_19 κ f) l0 l1 (l2 + 1) M6))) (some b7) l2 M2))) (some b3) M
def wX8_placeOf (κ : Int32 → mM → Prop) (l0 : Option Nat) (M : mM) : Prop :=
    m_gR M l0 11 5 fun x1 => ((x1 = none → κ (-1) M) ∧ (¬ (x1 = none) → m_gR M l0 11 5 fun x3 => m_gR M x3 5 5 fun x4 => ∃ u : Nat, wX8_placeOf_19 κ u l0 x4 0 M))
def wX8_leave_23 (κ : Int32 → mM → Prop) (ξ : String → mM → Prop) (M : mM) : Prop :=
    ξ "java/lang/IllegalStateException" M
def wX8_leave (κ : Int32 → mM → Prop) (ξ : String → mM → Prop) (l0 : Option Nat) (l1 : Int32) (M : mM) : Prop :=
    m_rc M l0 13 fun b3 => wX8_sleeperNumbered (fun x1 M2 => wX8_placeOf (fun x4 M5 => m_gR M5 x1 11 5 fun x6 => ((x6 = none → wX8_leave_23 κ ξ M5) ∧ (¬ (x6 = none) → ((x4 = (-1) → wX8_leave_23 κ ξ M5) ∧ (¬ (x4 = (-1)) → m_gR M5 x1 11 5 fun x9 => m_gR M5 x9 5 5 fun x10 => m_rc M5 x10 4 fun b13 => wJx4a65c_remove_915e3 (fun x11 M12 => m_rc M12 x1 11 fun b15 => wX6_stepOut (fun M14 => κ x4 M14) (some b15) 0 M12) (some b13) x4 M5))))) x1 M2) ξ (some b3) l1 M
def wX8_passIsGood (κ : Int32 → mM → Prop) (l0 : Option Nat) (l1 : Option Nat) (l2 : Option Nat) (M : mM) : Prop :=
    m_gR M l1 11 7 fun x1 => ((x1 = none → κ 0 M) ∧ (¬ (x1 = none) → m_gR M x1 9 0 fun x3 => ((x3 = l2 → m_gI M x1 9 1 fun x5 => m_gI M l0 13 8 fun x6 => ((x5 = x6 → m_gI M x1 9 2 fun x8 => m_gI M l0 13 8 fun x9 => wX8_rightVerse (fun x10 M11 => m_rc M11 l2 5 fun b14 => wX0_dozes (fun x12 M13 => ((x12 = 0 → (((m_abs (x8 - x10)) = 0 → m_gR M13 l2 5 6 fun x17 => m_gI M13 x1 9 2 fun x18 => m_rc M13 x17 12 fun b21 => wX7_has (fun x19 M20 => ((x19 = 0 → κ 1 M20) ∧ (¬ (x19 = 0) → κ 0 M20))) (some b21) x18 M13) ∧ (¬ ((m_abs (x8 - x10)) = 0) → κ 0 M13))) ∧ (¬ (x12 = 0) → ((1 < (m_abs (x8 - x10)) → κ 0 M13) ∧ (¬ (1 < (m_abs (x8 - x10))) → κ 1 M13))))) (some b14) M11) l1 l2 x9 M) ∧ (¬ (x5 = x6) → κ 0 M))) ∧ (¬ (x3 = l2) → κ 0 M))))
def wX8_keepHiding_100 (g : Nat → Nat) (κ : mM → Prop) (R15 : Option Nat → Option Nat → Int32 → Int32 → mM → Prop) (l0 : Option Nat) (l1 : Option Nat) (l2 : Int32) (l3 : Int32) (M : mM) : Prop :=
    R15 l0 l1 l2 (l3 + 1) M
def wX8_keepHiding_15 (g : Nat → Nat) (κ : mM → Prop) : Nat → Option Nat → Option Nat → Int32 → Int32 → mM → Prop
  | 0 => fun _ _ _ _ _ => False
  | f + 1 => fun (l0 : Option Nat) (l1 : Option Nat) (l2 : Int32) (l3 : Int32) (M : mM) =>
    m_gR M l0 13 4 fun x1 => m_rc M x1 4 fun b4 => wJx4a65c_size_8abf5 (fun x2 M3 => ((x2 ≤ l3 → m_gR M3 l0 13 4 fun x6 => m_new M3 6 [.null, .int 0, .int 0] fun q7 M8 => m_gI M8 l0 13 8 fun x9 => m_rc M8 (some q7) 6 fun b11 => wX1_init (fun M10 => m_rc M10 x6 4 fun b14 => wJx4a65c_add_9ea2d g 49 (fun x12 M13 => κ M13) (some b14) (some q7) M10) (some b11) l1 l2 x9 M8) ∧ (¬ (x2 ≤ l3) → m_gR M3 l0 13 4 fun x15 => m_rc M3 x15 4 fun b18 => wJx4a65c_get_915e3 (fun x16 M17 => m_cast M17 x16 6 (m_gI M17 x16 6 1 fun x19 => ((x19 = l2 → m_gI M17 l0 13 8 fun x21 => m_gI M17 x16 6 2 fun x22 => ((2 < (x21 - x22) → wX8_keepHiding_100 g κ (wX8_keepHiding_15 g κ f) l0 l1 l2 l3 M17) ∧ (¬ (2 < (x21 - x22)) → m_gR M17 x16 6 0 fun x24 => m_gI M17 x24 11 8 fun x25 => m_gI M17 l1 11 0 fun x26 => m_p M17 x24 11 8 (.int (x25 ||| (m_shl 1 x26))) fun M27 => m_gI M27 l1 11 8 fun x28 => m_gR M27 x16 6 0 fun x29 => m_gI M27 x29 11 0 fun x30 => m_p M27 l1 11 8 (.int (x28 ||| (m_shl 1 x30))) fun M31 => wX8_keepHiding_100 g κ (wX8_keepHiding_15 g κ f) l0 l1 l2 l3 M31))) ∧ (¬ (x19 = l2) → wX8_keepHiding_100 g κ (wX8_keepHiding_15 g κ f) l0 l1 l2 l3 M17)))) (some b18) l3 M3))) (some b4) M
def wX8_keepHiding (g : Nat → Nat) (κ : mM → Prop) (l0 : Option Nat) (l1 : Option Nat) (l2 : Int32) (M : mM) : Prop :=
    m_gR M l0 13 4 fun x1 => m_rc M x1 4 fun b4 => wJx4a65c_size_8abf5 (fun x2 M3 => ((x2 < 40 → ∃ u : Nat, wX8_keepHiding_15 g κ u l0 l1 l2 0 M3) ∧ (¬ (x2 < 40) → κ M3))) (some b4) M
def wX8_bringHidden_105 (g : Nat → Nat) (κ : Int32 → mM → Prop) (R6 : Nat → Nat → Option Nat → Option Nat → Option Nat → Int32 → Int32 → Int32 → mM → Prop) (k9 n9 : Nat) (l0 : Option Nat) (l1 : Option Nat) (l2 : Option Nat) (l3 : Int32) (l4 : Int32) (l5 : Int32) (M : mM) : Prop :=
    ((k9 ≤ 48 ∧ n9 ≤ 1248) ∧ R6 k9 n9 l0 l1 l2 l3 l4 (l5 + 1) M)
def wX8_bringHidden_6 (g : Nat → Nat) (κ : Int32 → mM → Prop) : Nat → Nat → Nat → Option Nat → Option Nat → Option Nat → Int32 → Int32 → Int32 → mM → Prop
  | 0 => fun _ _ _ _ _ _ _ _ _ => False
  | f + 1 => fun (k9 n9 : Nat) (l0 : Option Nat) (l1 : Option Nat) (l2 : Option Nat) (l3 : Int32) (l4 : Int32) (l5 : Int32) (M : mM) =>
    ((k9 ≤ 48 ∧ n9 ≤ 1248) ∧ m_gR M l0 13 3 fun x1 => m_rc M x1 4 fun b4 => wJx4a65c_size_8abf5 (fun x2 M3 => ((x2 ≤ l5 → ((k9 ≤ 48 ∧ n9 ≤ 1248) ∧ κ l4 M3)) ∧ (¬ (x2 ≤ l5) → m_gR M3 l0 13 3 fun x6 => m_rc M3 x6 4 fun b9 => wJx4a65c_get_915e3 (fun x7 M8 => m_cast M8 x7 8 (m_gR M8 x7 8 5 fun x10 => ((x10 = l1 → m_rc M8 x7 8 fun b14 => wX3_isHidden (fun x12 M13 => ((x12 = 0 → wX8_bringHidden_105 g κ (wX8_bringHidden_6 g κ f) k9 n9 l0 l1 l2 l3 l4 l5 M13) ∧ (¬ (x12 = 0) → m_gI M13 x7 8 1 fun x16 => ((k9 + 2 ≤ 48 ∧ n9 + 52 ≤ 1248) ∧ m_rc M13 l0 13 fun b18 => wX8_keepHiding g (fun M17 => m_p M17 x7 8 7 (va_rf l1) fun M19 => ((l3 = 0 → m_p M19 x7 8 4 (.int 4) fun M21 => wX8_bringHidden_105 g κ (wX8_bringHidden_6 g κ f) (k9 + 2) (n9 + 52) l0 l1 l2 l3 l4 l5 M21) ∧ (¬ (l3 = 0) → m_rc M19 x7 8 fun b23 => wX3_putInStore (fun M22 => m_gI M22 l2 7 6 fun x24 => m_gI M22 x7 8 2 fun x25 => m_p M22 l2 7 6 (.int (x24 + x25)) fun M26 => wX8_bringHidden_105 g κ (wX8_bringHidden_6 g κ f) (k9 + 2) (n9 + 52) l0 l1 l2 l3 (l4 + 1) l5 M26) (some b23) l2 3 M19))) (some b18) l1 x16 M13)))) (some b14) M8) ∧ (¬ (x10 = l1) → wX8_bringHidden_105 g κ (wX8_bringHidden_6 g κ f) k9 n9 l0 l1 l2 l3 l4 l5 M8)))) (some b9) l5 M3))) (some b4) M)
def wX8_bringHidden (g : Nat → Nat) (κ : Int32 → mM → Prop) (l0 : Option Nat) (l1 : Option Nat) (l2 : Option Nat) (l3 : Int32) (M : mM) : Prop :=
    ∃ u : Nat, wX8_bringHidden_6 g κ u 0 0 l0 l1 l2 l3 0 0 M
def wX8_partsThatComeIn_90 (κ : Int32 → mM → Prop) (R11 : Option Nat → Option Nat → Option Nat → Int32 → Int32 → Int32 → mM → Prop) (l0 : Option Nat) (l1 : Option Nat) (l2 : Option Nat) (l3 : Int32) (l4 : Int32) (l5 : Int32) (M : mM) : Prop :=
    R11 l0 l1 l2 l3 l4 (l5 + 1) M
def wX8_partsThatComeIn_69 (κ : Int32 → mM → Prop) (R11 : Option Nat → Option Nat → Option Nat → Int32 → Int32 → Int32 → mM → Prop) (l0 : Option Nat) (l1 : Option Nat) (l2 : Option Nat) (l3 : Int32) (l4 : Int32) (l5 : Int32) (l6 : Option Nat) (M : mM) : Prop :=
    m_gI M l6 8 0 fun x1 => m_rc M l6 8 fun b4 => wX3_isNightmare (fun x2 M3 => ((x2 = 0 → wX8_partsThatComeIn_90 κ R11 l0 l1 l2 (l3 ||| (m_shl 1 x1)) l4 l5 M3) ∧ (¬ (x2 = 0) → wX8_partsThatComeIn_90 κ R11 l0 l1 l2 (l3 ||| (m_shl 1 x1)) (l4 + 1) l5 M3))) (some b4) M
def wX8_partsThatComeIn_11 (κ : Int32 → mM → Prop) : Nat → Option Nat → Option Nat → Option Nat → Int32 → Int32 → Int32 → mM → Prop
  | 0 => fun _ _ _ _ _ _ _ => False
  | f + 1 => fun (l0 : Option Nat) (l1 : Option Nat) (l2 : Option Nat) (l3 : Int32) (l4 : Int32) (l5 : Int32) (M : mM) =>
    m_gR M l0 13 3 fun x1 => m_rc M x1 4 fun b4 => wJx4a65c_size_8abf5 (fun x2 M3 => ((x2 ≤ l5 → κ l3 M3) ∧ (¬ (x2 ≤ l5) → m_gR M3 l0 13 3 fun x6 => m_rc M3 x6 4 fun b9 => wJx4a65c_get_915e3 (fun x7 M8 => m_cast M8 x7 8 (m_gI M8 l1 11 6 fun x10 => m_rc M8 x7 8 fun b13 => wX3_isIn (fun x11 M12 => ((x11 = 0 → wX8_partsThatComeIn_90 κ (wX8_partsThatComeIn_11 κ f) l0 l1 l2 l3 l4 l5 M12) ∧ (¬ (x11 = 0) → m_rc M12 x7 8 fun b17 => wX3_isNightmare (fun x15 M16 => ((x15 = 0 → wX8_partsThatComeIn_69 κ (wX8_partsThatComeIn_11 κ f) l0 l1 l2 l3 l4 l5 x7 M16) ∧ (¬ (x15 = 0) → m_gI M16 l2 7 3 fun x19 => ((l4 < x19 → wX8_partsThatComeIn_69 κ (wX8_partsThatComeIn_11 κ f) l0 l1 l2 l3 l4 l5 x7 M16) ∧ (¬ (l4 < x19) → wX8_partsThatComeIn_90 κ (wX8_partsThatComeIn_11 κ f) l0 l1 l2 l3 l4 l5 M16))))) (some b17) M12))) (some b13) x10 M8)) (some b9) l5 M3))) (some b4) M
def wX8_partsThatComeIn (κ : Int32 → mM → Prop) (l0 : Option Nat) (l1 : Option Nat) (l2 : Option Nat) (M : mM) : Prop :=
    m_gI M l2 7 4 fun x1 => ∃ u : Nat, wX8_partsThatComeIn_11 κ u l0 l1 l2 0 x1 0 M
def wX8_worthOf_45 (κ : Int32 → mM → Prop) (R4 : Option Nat → Int32 → Int32 → Int32 → mM → Prop) (l0 : Option Nat) (l1 : Int32) (l2 : Int32) (l3 : Int32) (M : mM) : Prop :=
    R4 l0 l1 l2 (l3 + 1) M
def wX8_worthOf_4 (κ : Int32 → mM → Prop) : Nat → Option Nat → Int32 → Int32 → Int32 → mM → Prop
  | 0 => fun _ _ _ _ _ => False
  | f + 1 => fun (l0 : Option Nat) (l1 : Int32) (l2 : Int32) (l3 : Int32) (M : mM) =>
    m_gR M l0 13 3 fun x1 => m_rc M x1 4 fun b4 => wJx4a65c_size_8abf5 (fun x2 M3 => ((x2 ≤ l3 → κ l2 M3) ∧ (¬ (x2 ≤ l3) → m_gR M3 l0 13 3 fun x6 => m_rc M3 x6 4 fun b9 => wJx4a65c_get_915e3 (fun x7 M8 => m_cast M8 x7 8 (m_rc M8 x7 8 fun b12 => wX3_isIn (fun x10 M11 => ((x10 = 0 → wX8_worthOf_45 κ (wX8_worthOf_4 κ f) l0 l1 l2 l3 M11) ∧ (¬ (x10 = 0) → m_gI M11 x7 8 2 fun x14 => wX8_worthOf_45 κ (wX8_worthOf_4 κ f) l0 l1 (l2 + x14) l3 M11))) (some b12) l1 M8)) (some b9) l3 M3))) (some b4) M
def wX8_worthOf (κ : Int32 → mM → Prop) (l0 : Option Nat) (l1 : Int32) (M : mM) : Prop :=
    ∃ u : Nat, wX8_worthOf_4 κ u l0 l1 0 0 M
def wX8_bringDeclared_121 (κ : mM → Prop) (R33 : Option Nat → Option Nat → Option Nat → Int32 → Int32 → Int32 → Int32 → mM → Prop) (l0 : Option Nat) (l1 : Option Nat) (l2 : Option Nat) (l3 : Int32) (l4 : Int32) (l5 : Int32) (l6 : Int32) (M : mM) : Prop :=
    R33 l0 l1 l2 l3 l4 l5 (l6 + 1) M
def wX8_bringDeclared_33 (κ : mM → Prop) : Nat → Option Nat → Option Nat → Option Nat → Int32 → Int32 → Int32 → Int32 → mM → Prop
  | 0 => fun _ _ _ _ _ _ _ _ => False
  | f + 1 => fun (l0 : Option Nat) (l1 : Option Nat) (l2 : Option Nat) (l3 : Int32) (l4 : Int32) (l5 : Int32) (l6 : Int32) (M : mM) =>
    m_gR M l0 13 3 fun x1 => m_rc M x1 4 fun b4 => wJx4a65c_size_8abf5 (fun x2 M3 => ((x2 ≤ l6 → m_gI M3 l2 7 5 fun x6 => m_rc M3 l2 7 fun b9 => wX2_dutyOn (fun x7 M8 => m_p M8 l2 7 5 (.int (x6 + x7)) fun M10 => κ M10) (some b9) l4 M3) ∧ (¬ (x2 ≤ l6) → m_gR M3 l0 13 3 fun x11 => m_rc M3 x11 4 fun b14 => wJx4a65c_get_915e3 (fun x12 M13 => m_cast M13 x12 8 (m_gI M13 l1 11 6 fun x15 => m_rc M13 x12 8 fun b18 => wX3_isIn (fun x16 M17 => ((x16 = 0 → wX8_bringDeclared_121 κ (wX8_bringDeclared_33 κ f) l0 l1 l2 l3 l4 l5 l6 M17) ∧ (¬ (x16 = 0) → m_rc M17 x12 8 fun b22 => wX3_isIn (fun x20 M21 => ((x20 = 0 → m_gR M21 l1 11 2 fun x31 => m_rc M21 x12 8 fun b33 => wX3_putInStore (fun M32 => wX8_bringDeclared_121 κ (wX8_bringDeclared_33 κ f) l0 l1 l2 l3 l4 l5 l6 M32) (some b33) x31 5 M21) ∧ (¬ (x20 = 0) → m_p M21 x12 8 4 (.int l5) fun M24 => m_rc M24 x12 8 fun b27 => wX3_isNightmare (fun x25 M26 => ((x25 = 0 → wX8_bringDeclared_121 κ (wX8_bringDeclared_33 κ f) l0 l1 l2 l3 l4 l5 l6 M26) ∧ (¬ (x25 = 0) → m_gI M26 l2 7 4 fun x29 => m_p M26 l2 7 4 (.int (x29 + 1)) fun M30 => wX8_bringDeclared_121 κ (wX8_bringDeclared_33 κ f) l0 l1 l2 l3 l4 l5 l6 M30))) (some b27) M24))) (some b22) l3 M17))) (some b18) x15 M13)) (some b14) l6 M3))) (some b4) M
def wX8_bringDeclared_28 (κ : mM → Prop) (l0 : Option Nat) (l1 : Option Nat) (l2 : Option Nat) (l3 : Int32) (l4 : Int32) (s0 : Int32) (M : mM) : Prop :=
    ∃ u : Nat, wX8_bringDeclared_33 κ u l0 l1 l2 l3 l4 s0 0 M
def wX8_bringDeclared (κ : mM → Prop) (l0 : Option Nat) (l1 : Option Nat) (l2 : Option Nat) (M : mM) : Prop :=
    m_rc M l0 13 fun b3 => wX8_partsThatComeIn (fun x1 M2 => m_rc M2 l0 13 fun b6 => wX8_worthOf (fun x4 M5 => m_gI M5 l2 7 2 fun x7 => ((x7 < x4 → wX8_bringDeclared_28 κ l0 l1 l2 x1 x4 1 M5) ∧ (¬ (x7 < x4) → wX8_bringDeclared_28 κ l0 l1 l2 x1 x4 2 M5))) (some b6) x1 M2) (some b3) l1 l2 M
def wX8_comeThrough_38 (g : Nat → Nat) (κ : Int32 → mM → Prop) (l0 : Option Nat) (l1 : Option Nat) (l3 : Option Nat) (s0 : Int32) (M : mM) : Prop :=
    m_rc M l0 13 fun b3 => wX8_bringHidden g (fun x1 M2 => m_rc M2 l0 13 fun b5 => wX8_bringDeclared (fun M4 => m_p M4 l1 11 2 (va_rf l3) fun M6 => m_p M6 l1 11 7 (va_rf none) fun M7 => κ x1 M7) (some b5) l1 l3 M2) (some b3) l1 l3 s0 M
def wX8_comeThrough_37 (g : Nat → Nat) (κ : Int32 → mM → Prop) (l0 : Option Nat) (l1 : Option Nat) (l3 : Option Nat) (M : mM) : Prop :=
    wX8_comeThrough_38 g κ l0 l1 l3 0 M
def wX8_comeThrough (g : Nat → Nat) (κ : Int32 → mM → Prop) (l0 : Option Nat) (l1 : Option Nat) (l2 : Option Nat) (M : mM) : Prop :=
    m_gR M l1 11 2 fun x1 => m_rc M l2 5 fun b4 => wX0_across (fun x2 M3 => m_rc M3 l2 5 fun b7 => wX0_dozes (fun x5 M6 => ((x5 = 0 → m_gR M6 l0 13 5 fun x9 => m_rc M6 x9 10 fun b12 => wX5_draw (fun x10 M11 => m_gI M11 l2 5 8 fun x13 => ((x13 ≤ (m_rem x10 10) → wX8_comeThrough_37 g κ l0 l1 x2 M11) ∧ (¬ (x13 ≤ (m_rem x10 10)) → wX8_comeThrough_38 g κ l0 l1 x2 1 M11))) (some b12) M6) ∧ (¬ (x5 = 0) → wX8_comeThrough_37 g κ l0 l1 x2 M6))) (some b7) M3) (some b4) x1 M
def wX8_wake_43 (κ : mM → Prop) (R7 : Option Nat → Option Nat → Int32 → mM → Prop) (l0 : Option Nat) (l1 : Option Nat) (l2 : Int32) (M : mM) : Prop :=
    R7 l0 l1 (l2 + 1) M
def wX8_wake_7 (κ : mM → Prop) : Nat → Option Nat → Option Nat → Int32 → mM → Prop
  | 0 => fun _ _ _ _ => False
  | f + 1 => fun (l0 : Option Nat) (l1 : Option Nat) (l2 : Int32) (M : mM) =>
    m_gR M l0 13 3 fun x1 => m_rc M x1 4 fun b4 => wJx4a65c_size_8abf5 (fun x2 M3 => ((x2 ≤ l2 → κ M3) ∧ (¬ (x2 ≤ l2) → m_gR M3 l0 13 3 fun x6 => m_rc M3 x6 4 fun b9 => wJx4a65c_get_915e3 (fun x7 M8 => m_cast M8 x7 8 (m_gR M8 x7 8 5 fun x10 => ((x10 = l1 → m_p M8 x7 8 5 (va_rf none) fun M12 => wX8_wake_43 κ (wX8_wake_7 κ f) l0 l1 l2 M12) ∧ (¬ (x10 = l1) → wX8_wake_43 κ (wX8_wake_7 κ f) l0 l1 l2 M8)))) (some b9) l2 M3))) (some b4) M
def wX8_wake (κ : mM → Prop) (l0 : Option Nat) (l1 : Option Nat) (M : mM) : Prop :=
    m_rc M l1 11 fun b2 => wX6_stepOut (fun M1 => ∃ u : Nat, wX8_wake_7 κ u l0 l1 0 M1) (some b2) 2 M
def wX8_tireThoseWhoStand_57 (κ : mM → Prop) (R10 : Option Nat → Option Nat → Int32 → mM → Prop) (l0 : Option Nat) (l1 : Option Nat) (l2 : Int32) (M : mM) : Prop :=
    R10 l0 l1 (l2 + (-1)) M
def wX8_tireThoseWhoStand_10 (κ : mM → Prop) : Nat → Option Nat → Option Nat → Int32 → mM → Prop
  | 0 => fun _ _ _ _ => False
  | f + 1 => fun (l0 : Option Nat) (l1 : Option Nat) (l2 : Int32) (M : mM) =>
    ((l2 < 0 → κ M) ∧ (¬ (l2 < 0) → m_gR M l1 5 5 fun x2 => m_rc M x2 4 fun b5 => wJx4a65c_get_915e3 (fun x3 M4 => m_cast M4 x3 11 (m_gI M4 x3 11 3 fun x6 => m_p M4 x3 11 3 (.int (x6 - 1)) fun M7 => m_gI M7 x3 11 3 fun x8 => ((0 < x8 → wX8_tireThoseWhoStand_57 κ (wX8_tireThoseWhoStand_10 κ f) l0 l1 l2 M7) ∧ (¬ (0 < x8) → m_gR M7 l1 5 5 fun x10 => m_rc M7 x10 4 fun b13 => wJx4a65c_remove_915e3 (fun x11 M12 => m_rc M12 l0 13 fun b15 => wX8_wake (fun M14 => wX8_tireThoseWhoStand_57 κ (wX8_tireThoseWhoStand_10 κ f) l0 l1 l2 M14) (some b15) x3 M12) (some b13) l2 M7)))) (some b5) l2 M))
def wX8_tireThoseWhoStand (κ : mM → Prop) (l0 : Option Nat) (l1 : Option Nat) (M : mM) : Prop :=
    m_gR M l1 5 5 fun x1 => m_rc M x1 4 fun b4 => wJx4a65c_size_8abf5 (fun x2 M3 => ∃ u : Nat, wX8_tireThoseWhoStand_10 κ u l0 l1 (x2 - 1) M3) (some b4) M
def wX8_yawn_27 (g : Nat → Nat) (κ : Int32 → mM → Prop) (ξ : String → mM → Prop) (M : mM) : Prop :=
    ξ "java/lang/IllegalStateException" M
def wX8_yawn_87 (g : Nat → Nat) (κ : Int32 → mM → Prop) (ξ : String → mM → Prop) (l0 : Option Nat) (l2 : Option Nat) (l3 : Option Nat) (s0 : Int32) (M : mM) : Prop :=
    m_rc M l3 11 fun b2 => wX6_stepOut (fun M1 => m_rc M1 l0 13 fun b4 => wX8_tireThoseWhoStand (fun M3 => κ s0 M3) (some b4) l2 M1) (some b2) 0 M
def wX8_yawn (g : Nat → Nat) (κ : Int32 → mM → Prop) (ξ : String → mM → Prop) (l0 : Option Nat) (l1 : Int32) (M : mM) : Prop :=
    m_rc M l0 13 fun b3 => wX8_gateNumbered (fun x1 M2 => m_gI M2 l0 13 9 fun x4 => m_rc M2 x1 5 fun b7 => wX0_isOpenAt (fun x5 M6 => ((x5 = 0 → wX8_yawn_27 g κ ξ M6) ∧ (¬ (x5 = 0) → m_gR M6 x1 5 5 fun x9 => m_rc M6 x9 4 fun b12 => wJx4a65c_isEmpty_aae02 (fun x10 M11 => ((x10 = 0 → m_gI M11 l0 13 10 fun x14 => m_p M11 l0 13 10 (.int (x14 + 1)) fun M15 => m_gR M15 x1 5 5 fun x16 => m_rc M15 x16 4 fun b19 => wJx4a65c_get_915e3 (fun x17 M18 => m_cast M18 x17 11 (m_gR M18 x1 5 5 fun x20 => m_rc M18 x20 4 fun b23 => wJx4a65c_remove_915e3 (fun x21 M22 => m_rc M22 l0 13 fun b26 => wX8_passIsGood (fun x24 M25 => ((x24 = 0 → wX8_yawn_87 g κ ξ l0 x1 x17 (-1) M25) ∧ (¬ (x24 = 0) → m_rc M25 l0 13 fun b30 => wX8_comeThrough g (fun x28 M29 => wX8_yawn_87 g κ ξ l0 x1 x17 x28 M29) (some b30) x17 x1 M25))) (some b26) x17 x1 M22) (some b23) 0 M18)) (some b19) 0 M15) ∧ (¬ (x10 = 0) → wX8_yawn_27 g κ ξ M11))) (some b12) M6))) (some b7) x4 M2) ξ (some b3) l1 M
def wX8_appeal_34 (κ : Int32 → mM → Prop) (ξ : String → mM → Prop) (M : mM) : Prop :=
    ξ "java/lang/IllegalStateException" M
def wX8_appeal (κ : Int32 → mM → Prop) (ξ : String → mM → Prop) (l0 : Option Nat) (l1 : Int32) (M : mM) : Prop :=
    m_rc M l0 13 fun b3 => wX8_partNumbered (fun x1 M2 => m_gR M2 x1 8 6 fun x4 => m_gR M2 x1 8 7 fun x5 => m_gI M2 x1 8 4 fun x6 => ((x6 = 3 → ((x4 = none → wX8_appeal_34 κ ξ M2) ∧ (¬ (x4 = none) → ((x5 = none → wX8_appeal_34 κ ξ M2) ∧ (¬ (x5 = none) → m_gI M2 x1 8 2 fun x10 => m_gI M2 x4 7 2 fun x11 => ((x11 < x10 → κ 0 M2) ∧ (¬ (x11 < x10) → m_gR M2 x5 11 2 fun x13 => ((x13 = x4 → m_gI M2 x5 11 4 fun x15 => ((x15 = 0 → m_p M2 x1 8 6 (va_rf none) fun M17 => m_p M17 x1 8 5 (va_rf x5) fun M18 => m_p M18 x1 8 4 (.int 2) fun M19 => m_gI M19 x4 7 6 fun x20 => m_gI M19 x1 8 2 fun x21 => m_p M19 x4 7 6 (.int (x20 - x21)) fun M22 => κ 1 M22) ∧ (¬ (x15 = 0) → κ 0 M2))) ∧ (¬ (x13 = x4) → κ 0 M2))))))))) ∧ (¬ (x6 = 3) → wX8_appeal_34 κ ξ M2))) ξ (some b3) l1 M
def wX8_beginNight_93 (κ : mM → Prop) (R44 : Option Nat → Int32 → mM → Prop) (l0 : Option Nat) (l1 : Int32) (M : mM) : Prop :=
    R44 l0 (l1 + 1) M
def wX8_beginNight_44 (κ : mM → Prop) : Nat → Option Nat → Int32 → mM → Prop
  | 0 => fun _ _ _ => False
  | f + 1 => fun (l0 : Option Nat) (l1 : Int32) (M : mM) =>
    m_gR M l0 13 2 fun x1 => m_rc M x1 4 fun b4 => wJx4a65c_size_8abf5 (fun x2 M3 => ((x2 ≤ l1 → κ M3) ∧ (¬ (x2 ≤ l1) → m_gR M3 l0 13 2 fun x6 => m_rc M3 x6 4 fun b9 => wJx4a65c_get_915e3 (fun x7 M8 => m_cast M8 x7 11 (m_gR M8 x7 11 7 fun x10 => ((x10 = none → wX8_beginNight_93 κ (wX8_beginNight_44 κ f) l0 l1 M8) ∧ (¬ (x10 = none) → m_gR M8 x7 11 7 fun x12 => m_gI M8 x12 9 1 fun x13 => m_gI M8 l0 13 8 fun x14 => ((x14 ≤ x13 → wX8_beginNight_93 κ (wX8_beginNight_44 κ f) l0 l1 M8) ∧ (¬ (x14 ≤ x13) → m_p M8 x7 11 7 (va_rf none) fun M16 => wX8_beginNight_93 κ (wX8_beginNight_44 κ f) l0 l1 M16)))))) (some b9) l1 M3))) (some b4) M
def wX8_beginNight_20 (κ : mM → Prop) : Nat → Option Nat → Option Nat → Int32 → Int32 → mM → Prop
  | 0 => fun _ _ _ _ _ => False
  | f + 1 => fun (l0 : Option Nat) (l1 : Option Nat) (l2 : Int32) (l3 : Int32) (M : mM) =>
    ((l2 ≤ l3 → ∃ u : Nat, wX8_beginNight_44 κ u l0 0 M) ∧ (¬ (l2 ≤ l3) → m_ldR M l1 l3 3 fun x2 => m_p M x2 7 4 (.int 0) fun M3 => (wX8_beginNight_20 κ f) l0 l1 l2 (l3 + 1) M3))
def wX8_beginNight (κ : mM → Prop) (l0 : Option Nat) (M : mM) : Prop :=
    m_gI M l0 13 8 fun x1 => m_p M l0 13 8 (.int (x1 + 1)) fun M2 => m_gR M2 l0 13 0 fun x3 => m_len M2 x3 fun x4 => ∃ u : Nat, wX8_beginNight_20 κ u l0 x3 x4 0 M2
def wX8_spreadRevoked_101 (κ : mM → Prop) : Nat → Option Nat → Int32 → mM → Prop
  | 0 => fun _ _ _ => False
  | f + 1 => fun (l0 : Option Nat) (l1 : Int32) (M : mM) =>
    m_gR M l0 13 1 fun x1 => m_rc M x1 4 fun b4 => wJx4a65c_size_8abf5 (fun x2 M3 => ((x2 ≤ l1 → κ M3) ∧ (¬ (x2 ≤ l1) → m_gR M3 l0 13 1 fun x6 => m_rc M3 x6 4 fun b9 => wJx4a65c_get_915e3 (fun x7 M8 => m_cast M8 x7 5 (m_gR M8 x7 5 6 fun x10 => m_gR M8 x7 5 7 fun x11 => m_rc M8 x10 12 fun b13 => wX7_putAll (fun M12 => (wX8_spreadRevoked_101 κ f) l0 (l1 + 1) M12) (some b13) x11 M8)) (some b9) l1 M3))) (some b4) M
def wX8_spreadRevoked_87 (κ : mM → Prop) (R2 : Option Nat → Int32 → mM → Prop) (R27 : Option Nat → Int32 → Option Nat → Int32 → mM → Prop) (l0 : Option Nat) (l1 : Int32) (l2 : Option Nat) (l3 : Int32) (M : mM) : Prop :=
    R27 l0 l1 l2 (l3 + 1) M
def wX8_spreadRevoked_75 (κ : mM → Prop) (R2 : Option Nat → Int32 → mM → Prop) (R27 : Option Nat → Int32 → Option Nat → Int32 → mM → Prop) (l0 : Option Nat) (l1 : Int32) (l2 : Option Nat) (l3 : Int32) (l4 : Option Nat) (M : mM) : Prop :=
    m_gR M l2 5 7 fun x1 => m_gR M l4 5 6 fun x2 => m_rc M x1 12 fun b4 => wX7_putAll (fun M3 => wX8_spreadRevoked_87 κ R2 R27 l0 l1 l2 l3 M3) (some b4) x2 M
def wX8_spreadRevoked_27 (κ : mM → Prop) (R2 : Option Nat → Int32 → mM → Prop) : Nat → Option Nat → Int32 → Option Nat → Int32 → mM → Prop
  | 0 => fun _ _ _ _ _ => False
  | f + 1 => fun (l0 : Option Nat) (l1 : Int32) (l2 : Option Nat) (l3 : Int32) (M : mM) =>
    m_gR M l0 13 1 fun x1 => m_rc M x1 4 fun b4 => wJx4a65c_size_8abf5 (fun x2 M3 => ((x2 ≤ l3 → R2 l0 (l1 + 1) M3) ∧ (¬ (x2 ≤ l3) → m_gR M3 l0 13 1 fun x6 => m_rc M3 x6 4 fun b9 => wJx4a65c_get_915e3 (fun x7 M8 => m_cast M8 x7 5 (m_gR M8 x7 5 1 fun x10 => m_rc M8 l2 5 fun b13 => wX0_isAt (fun x11 M12 => ((x11 = 0 → m_gR M12 x7 5 2 fun x15 => m_rc M12 l2 5 fun b18 => wX0_isAt (fun x16 M17 => ((x16 = 0 → wX8_spreadRevoked_87 κ R2 (wX8_spreadRevoked_27 κ R2 f) l0 l1 l2 l3 M17) ∧ (¬ (x16 = 0) → wX8_spreadRevoked_75 κ R2 (wX8_spreadRevoked_27 κ R2 f) l0 l1 l2 l3 x7 M17))) (some b18) x15 M12) ∧ (¬ (x11 = 0) → wX8_spreadRevoked_75 κ R2 (wX8_spreadRevoked_27 κ R2 f) l0 l1 l2 l3 x7 M12))) (some b13) x10 M8)) (some b9) l3 M3))) (some b4) M
def wX8_spreadRevoked_2 (κ : mM → Prop) : Nat → Option Nat → Int32 → mM → Prop
  | 0 => fun _ _ _ => False
  | f + 1 => fun (l0 : Option Nat) (l1 : Int32) (M : mM) =>
    m_gR M l0 13 1 fun x1 => m_rc M x1 4 fun b4 => wJx4a65c_size_8abf5 (fun x2 M3 => ((x2 ≤ l1 → ∃ u : Nat, wX8_spreadRevoked_101 κ u l0 0 M3) ∧ (¬ (x2 ≤ l1) → m_gR M3 l0 13 1 fun x6 => m_rc M3 x6 4 fun b9 => wJx4a65c_get_915e3 (fun x7 M8 => m_cast M8 x7 5 (∃ u : Nat, wX8_spreadRevoked_27 κ (wX8_spreadRevoked_2 κ f) u l0 l1 x7 0 M8)) (some b9) l1 M3))) (some b4) M
def wX8_spreadRevoked (κ : mM → Prop) (l0 : Option Nat) (M : mM) : Prop :=
    ∃ u : Nat, wX8_spreadRevoked_2 κ u l0 0 M
def wX8_beginHour_79 (κ : mM → Prop) (R34 : Option Nat → Int32 → mM → Prop) (l0 : Option Nat) (l1 : Int32) (s0 : Int32) (s1 : Option Nat) (M : mM) : Prop :=
    m_p M s1 5 9 (.int s0) fun M1 => R34 l0 (l1 + 1) M1
def wX8_beginHour_34 (κ : mM → Prop) : Nat → Option Nat → Int32 → mM → Prop
  | 0 => fun _ _ _ => False
  | f + 1 => fun (l0 : Option Nat) (l1 : Int32) (M : mM) =>
    m_gR M l0 13 1 fun x1 => m_rc M x1 4 fun b4 => wJx4a65c_size_8abf5 (fun x2 M3 => ((x2 ≤ l1 → κ M3) ∧ (¬ (x2 ≤ l1) → m_gR M3 l0 13 1 fun x6 => m_rc M3 x6 4 fun b9 => wJx4a65c_get_915e3 (fun x7 M8 => m_cast M8 x7 5 (m_gI M8 l0 13 9 fun x10 => m_rc M8 x7 5 fun b13 => wX0_isOpenAt (fun x11 M12 => ((x11 = 0 → wX8_beginHour_79 κ (wX8_beginHour_34 κ f) l0 l1 0 x7 M12) ∧ (¬ (x11 = 0) → m_gI M12 x7 5 9 fun x15 => wX8_beginHour_79 κ (wX8_beginHour_34 κ f) l0 l1 (x15 + 1) x7 M12))) (some b13) x10 M8)) (some b9) l1 M3))) (some b4) M
def wX8_beginHour_28 (κ : mM → Prop) (l0 : Option Nat) (M : mM) : Prop :=
    m_rc M l0 13 fun b2 => wX8_spreadRevoked (fun M1 => ∃ u : Nat, wX8_beginHour_34 κ u l0 0 M1) (some b2) M
def wX8_beginHour (κ : mM → Prop) (l0 : Option Nat) (M : mM) : Prop :=
    m_gI M l0 13 9 fun x1 => m_p M l0 13 9 (.int (x1 + 1)) fun M2 => m_gI M2 l0 13 9 fun x3 => ((x3 = 24 → m_p M2 l0 13 9 (.int 0) fun M5 => m_rc M5 l0 13 fun b7 => wX8_beginNight (fun M6 => wX8_beginHour_28 κ l0 M6) (some b7) M5) ∧ (¬ (x3 = 24) → wX8_beginHour_28 κ l0 M2))
def wX8_pass_39 (κ : Int32 → mM → Prop) (ξ : String → mM → Prop) : Nat → Option Nat → Int32 → Int32 → mM → Prop
  | 0 => fun _ _ _ _ => False
  | f + 1 => fun (l0 : Option Nat) (l1 : Int32) (l2 : Int32) (M : mM) =>
    ((l1 ≤ l2 → m_gI M l0 13 9 fun x2 => κ x2 M) ∧ (¬ (l1 ≤ l2) → m_rc M l0 13 fun b4 => wX8_beginHour (fun M3 => (wX8_pass_39 κ ξ f) l0 l1 (l2 + 1) M3) (some b4) M))
def wX8_pass (κ : Int32 → mM → Prop) (ξ : String → mM → Prop) (l0 : Option Nat) (l1 : Int32) (M : mM) : Prop :=
    wX8_demandRange (fun M1 => m_gI M1 l0 13 8 fun x2 => m_gI M1 l0 13 9 fun x3 => (((x2 + ((x3 + l1) / 24)) ≤ 99 → ∃ u : Nat, wX8_pass_39 κ ξ u l0 l1 0 M1) ∧ (¬ ((x2 + ((x3 + l1) / 24)) ≤ 99) → ξ "java/lang/IllegalStateException" M1))) ξ l1 1 48 M
def wX8_partsInStore_36 (κ : Int32 → mM → Prop) (R4 : Option Nat → Option Nat → Int32 → Int32 → mM → Prop) (l0 : Option Nat) (l1 : Option Nat) (l2 : Int32) (l3 : Int32) (M : mM) : Prop :=
    R4 l0 l1 l2 (l3 + 1) M
def wX8_partsInStore_4 (κ : Int32 → mM → Prop) : Nat → Option Nat → Option Nat → Int32 → Int32 → mM → Prop
  | 0 => fun _ _ _ _ _ => False
  | f + 1 => fun (l0 : Option Nat) (l1 : Option Nat) (l2 : Int32) (l3 : Int32) (M : mM) =>
    m_gR M l0 13 3 fun x1 => m_rc M x1 4 fun b4 => wJx4a65c_size_8abf5 (fun x2 M3 => ((x2 ≤ l3 → κ l2 M3) ∧ (¬ (x2 ≤ l3) → m_gR M3 l0 13 3 fun x6 => m_rc M3 x6 4 fun b9 => wJx4a65c_get_915e3 (fun x7 M8 => m_cast M8 x7 8 (m_gR M8 x7 8 6 fun x10 => ((x10 = l1 → wX8_partsInStore_36 κ (wX8_partsInStore_4 κ f) l0 l1 (l2 + 1) l3 M8) ∧ (¬ (x10 = l1) → wX8_partsInStore_36 κ (wX8_partsInStore_4 κ f) l0 l1 l2 l3 M8)))) (some b9) l3 M3))) (some b4) M
def wX8_partsInStore (κ : Int32 → mM → Prop) (l0 : Option Nat) (l1 : Option Nat) (M : mM) : Prop :=
    ∃ u : Nat, wX8_partsInStore_4 κ u l0 l1 0 0 M
def wX8_sleepersIn_49 (κ : Int32 → mM → Prop) (R4 : Option Nat → Option Nat → Int32 → Int32 → mM → Prop) (l0 : Option Nat) (l1 : Option Nat) (l2 : Int32) (l3 : Int32) (M : mM) : Prop :=
    R4 l0 l1 l2 (l3 + 1) M
def wX8_sleepersIn_4 (κ : Int32 → mM → Prop) : Nat → Option Nat → Option Nat → Int32 → Int32 → mM → Prop
  | 0 => fun _ _ _ _ _ => False
  | f + 1 => fun (l0 : Option Nat) (l1 : Option Nat) (l2 : Int32) (l3 : Int32) (M : mM) =>
    m_gR M l0 13 2 fun x1 => m_rc M x1 4 fun b4 => wJx4a65c_size_8abf5 (fun x2 M3 => ((x2 ≤ l3 → κ l2 M3) ∧ (¬ (x2 ≤ l3) → m_gR M3 l0 13 2 fun x6 => m_rc M3 x6 4 fun b9 => wJx4a65c_get_915e3 (fun x7 M8 => m_cast M8 x7 11 (m_gR M8 x7 11 2 fun x10 => ((x10 = l1 → m_gI M8 x7 11 4 fun x12 => ((x12 = 2 → wX8_sleepersIn_49 κ (wX8_sleepersIn_4 κ f) l0 l1 l2 l3 M8) ∧ (¬ (x12 = 2) → wX8_sleepersIn_49 κ (wX8_sleepersIn_4 κ f) l0 l1 (l2 + 1) l3 M8))) ∧ (¬ (x10 = l1) → wX8_sleepersIn_49 κ (wX8_sleepersIn_4 κ f) l0 l1 l2 l3 M8)))) (some b9) l3 M3))) (some b4) M
def wX8_sleepersIn (κ : Int32 → mM → Prop) (l0 : Option Nat) (l1 : Option Nat) (M : mM) : Prop :=
    ∃ u : Nat, wX8_sleepersIn_4 κ u l0 l1 0 0 M
def wX8_wholeDreams_65 (κ : Int32 → mM → Prop) (R7 : Option Nat → Option Nat → Int32 → Int32 → Int32 → mM → Prop) (l0 : Option Nat) (l1 : Option Nat) (l2 : Int32) (l3 : Int32) (l4 : Int32) (M : mM) : Prop :=
    R7 l0 l1 l2 l3 (l4 + 1) M
def wX8_wholeDreams_7 (κ : Int32 → mM → Prop) : Nat → Option Nat → Option Nat → Int32 → Int32 → Int32 → mM → Prop
  | 0 => fun _ _ _ _ _ _ => False
  | f + 1 => fun (l0 : Option Nat) (l1 : Option Nat) (l2 : Int32) (l3 : Int32) (l4 : Int32) (M : mM) =>
    m_gR M l0 13 3 fun x1 => m_rc M x1 4 fun b4 => wJx4a65c_size_8abf5 (fun x2 M3 => ((x2 ≤ l4 → κ (l2 &&& (l3 ^^^ (-1))) M3) ∧ (¬ (x2 ≤ l4) → m_gR M3 l0 13 3 fun x6 => m_rc M3 x6 4 fun b9 => wJx4a65c_get_915e3 (fun x7 M8 => m_cast M8 x7 8 (m_rc M8 x7 8 fun b12 => wX3_whereabouts (fun x10 M11 => ((x10 = l1 → m_gI M11 x7 8 1 fun x15 => wX8_wholeDreams_65 κ (wX8_wholeDreams_7 κ f) l0 l1 (l2 ||| (m_shl 1 x15)) l3 l4 M11) ∧ (¬ (x10 = l1) → m_gI M11 x7 8 1 fun x14 => wX8_wholeDreams_65 κ (wX8_wholeDreams_7 κ f) l0 l1 l2 (l3 ||| (m_shl 1 x14)) l4 M11))) (some b12) M8)) (some b9) l4 M3))) (some b4) M
def wX8_wholeDreams (κ : Int32 → mM → Prop) (l0 : Option Nat) (l1 : Option Nat) (M : mM) : Prop :=
    ∃ u : Nat, wX8_wholeDreams_7 κ u l0 l1 0 0 0 M
def wX8_ofLand (κ : Int32 → mM → Prop) (ξ : String → mM → Prop) (l0 : Option Nat) (l1 : Int32) (l2 : Int32) (M : mM) : Prop :=
    m_rc M l0 13 fun b3 => wX8_landNumbered (fun x1 M2 => ((l2 = 0 → m_gI M2 x1 7 1 fun x5 => κ x5 M2) ∧ (¬ l2 = 0 → ((l2 = 1 → m_gI M2 x1 7 2 fun x7 => κ x7 M2) ∧ (¬ l2 = 1 → ((l2 = 2 → m_gI M2 x1 7 3 fun x9 => κ x9 M2) ∧ (¬ l2 = 2 → ((l2 = 3 → m_gI M2 x1 7 4 fun x11 => κ x11 M2) ∧ (¬ l2 = 3 → ((l2 = 4 → m_gI M2 x1 7 5 fun x13 => κ x13 M2) ∧ (¬ l2 = 4 → ((l2 = 5 → m_gI M2 x1 7 6 fun x15 => κ x15 M2) ∧ (¬ l2 = 5 → ((l2 = 6 → m_rc M2 l0 13 fun b19 => wX8_partsInStore (fun x17 M18 => κ x17 M18) (some b19) x1 M2) ∧ (¬ l2 = 6 → ((l2 = 7 → m_rc M2 l0 13 fun b23 => wX8_sleepersIn (fun x21 M22 => κ x21 M22) (some b23) x1 M2) ∧ (¬ l2 = 7 → ((l2 = 8 → m_rc M2 l0 13 fun b27 => wX8_wholeDreams (fun x25 M26 => κ x25 M26) (some b27) x1 M2) ∧ (¬ l2 = 8 → ξ "java/lang/IllegalArgumentException" M2))))))))))))))))))) ξ (some b3) l1 M
def wX8_hiddenWorth_64 (κ : Int32 → mM → Prop) (R4 : Option Nat → Option Nat → Int32 → Int32 → mM → Prop) (l0 : Option Nat) (l1 : Option Nat) (l2 : Int32) (l3 : Int32) (M : mM) : Prop :=
    R4 l0 l1 l2 (l3 + 1) M
def wX8_hiddenWorth_4 (κ : Int32 → mM → Prop) : Nat → Option Nat → Option Nat → Int32 → Int32 → mM → Prop
  | 0 => fun _ _ _ _ _ => False
  | f + 1 => fun (l0 : Option Nat) (l1 : Option Nat) (l2 : Int32) (l3 : Int32) (M : mM) =>
    m_gR M l0 13 3 fun x1 => m_rc M x1 4 fun b4 => wJx4a65c_size_8abf5 (fun x2 M3 => ((x2 ≤ l3 → κ l2 M3) ∧ (¬ (x2 ≤ l3) → m_gR M3 l0 13 3 fun x6 => m_rc M3 x6 4 fun b9 => wJx4a65c_get_915e3 (fun x7 M8 => m_cast M8 x7 8 (m_gR M8 x7 8 5 fun x10 => ((x10 = none → wX8_hiddenWorth_64 κ (wX8_hiddenWorth_4 κ f) l0 l1 l2 l3 M8) ∧ (¬ (x10 = none) → m_gR M8 x7 8 5 fun x12 => m_gR M8 x12 11 5 fun x13 => ((x13 = l1 → m_rc M8 x7 8 fun b17 => wX3_isHidden (fun x15 M16 => ((x15 = 0 → wX8_hiddenWorth_64 κ (wX8_hiddenWorth_4 κ f) l0 l1 l2 l3 M16) ∧ (¬ (x15 = 0) → m_gI M16 x7 8 2 fun x19 => wX8_hiddenWorth_64 κ (wX8_hiddenWorth_4 κ f) l0 l1 (l2 + x19) l3 M16))) (some b17) M8) ∧ (¬ (x13 = l1) → wX8_hiddenWorth_64 κ (wX8_hiddenWorth_4 κ f) l0 l1 l2 l3 M8)))))) (some b9) l3 M3))) (some b4) M
def wX8_hiddenWorth (κ : Int32 → mM → Prop) (l0 : Option Nat) (l1 : Option Nat) (M : mM) : Prop :=
    ∃ u : Nat, wX8_hiddenWorth_4 κ u l0 l1 0 0 M
def wX8_ofGate (κ : Int32 → mM → Prop) (ξ : String → mM → Prop) (l0 : Option Nat) (l1 : Int32) (l2 : Int32) (M : mM) : Prop :=
    m_rc M l0 13 fun b3 => wX8_gateNumbered (fun x1 M2 => ((l2 = 0 → m_gR M2 x1 5 1 fun x5 => m_gI M2 x5 7 0 fun x6 => κ x6 M2) ∧ (¬ l2 = 0 → ((l2 = 1 → m_gR M2 x1 5 2 fun x8 => m_gI M2 x8 7 0 fun x9 => κ x9 M2) ∧ (¬ l2 = 1 → ((l2 = 2 → m_gI M2 l0 13 9 fun x11 => m_rc M2 x1 5 fun b14 => wX0_isOpenAt (fun x12 M13 => ((x12 = 0 → κ 0 M13) ∧ (¬ (x12 = 0) → κ 1 M13))) (some b14) x11 M2) ∧ (¬ l2 = 2 → ((l2 = 3 → m_gI M2 x1 5 8 fun x17 => κ x17 M2) ∧ (¬ l2 = 3 → ((l2 = 4 → m_gI M2 x1 5 9 fun x19 => κ x19 M2) ∧ (¬ l2 = 4 → ((l2 = 5 → m_rc M2 x1 5 fun b23 => wX0_dozes (fun x21 M22 => ((x21 = 0 → κ 0 M22) ∧ (¬ (x21 = 0) → κ 1 M22))) (some b23) M2) ∧ (¬ l2 = 5 → ((l2 = 6 → m_gR M2 x1 5 5 fun x26 => m_rc M2 x26 4 fun b29 => wJx4a65c_size_8abf5 (fun x27 M28 => κ x27 M28) (some b29) M2) ∧ (¬ l2 = 6 → ((l2 = 7 → m_gR M2 x1 5 5 fun x31 => m_rc M2 x31 4 fun b34 => wJx4a65c_isEmpty_aae02 (fun x32 M33 => ((x32 = 0 → m_gR M33 x1 5 5 fun x36 => m_rc M33 x36 4 fun b39 => wJx4a65c_get_915e3 (fun x37 M38 => m_cast M38 x37 11 (m_gI M38 x37 11 0 fun x40 => κ x40 M38)) (some b39) 0 M33) ∧ (¬ (x32 = 0) → κ (-1) M33))) (some b34) M2) ∧ (¬ l2 = 7 → ((l2 = 8 → m_rc M2 l0 13 fun b44 => wX8_hiddenWorth (fun x42 M43 => κ x42 M43) (some b44) x1 M2) ∧ (¬ l2 = 8 → ((l2 = 9 → m_gR M2 x1 5 6 fun x46 => m_rc M2 x46 12 fun b49 => wX7_size (fun x47 M48 => κ x47 M48) (some b49) M2) ∧ (¬ l2 = 9 → ξ "java/lang/IllegalArgumentException" M2))))))))))))))))))))) ξ (some b3) l1 M
def wX8_linksOf_40 (κ : Int32 → mM → Prop) (R4 : Option Nat → Int32 → Int32 → Int32 → mM → Prop) (l0 : Option Nat) (l1 : Int32) (l2 : Int32) (l3 : Int32) (M : mM) : Prop :=
    R4 l0 l1 l2 (l3 + 1) M
def wX8_linksOf_4 (κ : Int32 → mM → Prop) : Nat → Option Nat → Int32 → Int32 → Int32 → mM → Prop
  | 0 => fun _ _ _ _ _ => False
  | f + 1 => fun (l0 : Option Nat) (l1 : Int32) (l2 : Int32) (l3 : Int32) (M : mM) =>
    m_gR M l0 13 2 fun x1 => m_rc M x1 4 fun b4 => wJx4a65c_size_8abf5 (fun x2 M3 => ((x2 ≤ l3 → κ l2 M3) ∧ (¬ (x2 ≤ l3) → ((((m_shr l1 l3) &&& 1) = 0 → wX8_linksOf_40 κ (wX8_linksOf_4 κ f) l0 l1 l2 l3 M3) ∧ (¬ (((m_shr l1 l3) &&& 1) = 0) → m_gR M3 l0 13 2 fun x7 => m_rc M3 x7 4 fun b10 => wJx4a65c_get_915e3 (fun x8 M9 => m_cast M9 x8 11 (m_gI M9 x8 11 8 fun x11 => wX8_linksOf_40 κ (wX8_linksOf_4 κ f) l0 l1 (l2 ||| x11) l3 M9)) (some b10) l3 M3))))) (some b4) M
def wX8_linksOf (κ : Int32 → mM → Prop) (l0 : Option Nat) (l1 : Int32) (M : mM) : Prop :=
    ∃ u : Nat, wX8_linksOf_4 κ u l0 l1 0 0 M
def wX8_ringOf_9 (κ : Int32 → mM → Prop) : Nat → Option Nat → Int32 → Int32 → mM → Prop
  | 0 => fun _ _ _ _ => False
  | f + 1 => fun (l0 : Option Nat) (l2 : Int32) (l3 : Int32) (M : mM) =>
    ((12 ≤ l3 → κ l2 M) ∧ (¬ (12 ≤ l3) → m_rc M l0 13 fun b4 => wX8_linksOf (fun x2 M3 => (((l2 ||| x2) = l2 → κ l2 M3) ∧ (¬ ((l2 ||| x2) = l2) → (wX8_ringOf_9 κ f) l0 (l2 ||| x2) (l3 + 1) M3))) (some b4) l2 M))
def wX8_ringOf (κ : Int32 → mM → Prop) (l0 : Option Nat) (l1 : Option Nat) (M : mM) : Prop :=
    m_gI M l1 11 0 fun x1 => ∃ u : Nat, wX8_ringOf_9 κ u l0 (m_shl 1 x1) 0 M
def wX8_hidingsOf_36 (κ : Int32 → mM → Prop) (R4 : Option Nat → Option Nat → Int32 → Int32 → mM → Prop) (l0 : Option Nat) (l1 : Option Nat) (l2 : Int32) (l3 : Int32) (M : mM) : Prop :=
    R4 l0 l1 l2 (l3 + 1) M
def wX8_hidingsOf_4 (κ : Int32 → mM → Prop) : Nat → Option Nat → Option Nat → Int32 → Int32 → mM → Prop
  | 0 => fun _ _ _ _ _ => False
  | f + 1 => fun (l0 : Option Nat) (l1 : Option Nat) (l2 : Int32) (l3 : Int32) (M : mM) =>
    m_gR M l0 13 4 fun x1 => m_rc M x1 4 fun b4 => wJx4a65c_size_8abf5 (fun x2 M3 => ((x2 ≤ l3 → κ l2 M3) ∧ (¬ (x2 ≤ l3) → m_gR M3 l0 13 4 fun x6 => m_rc M3 x6 4 fun b9 => wJx4a65c_get_915e3 (fun x7 M8 => m_cast M8 x7 6 (m_gR M8 x7 6 0 fun x10 => ((x10 = l1 → wX8_hidingsOf_36 κ (wX8_hidingsOf_4 κ f) l0 l1 (l2 + 1) l3 M8) ∧ (¬ (x10 = l1) → wX8_hidingsOf_36 κ (wX8_hidingsOf_4 κ f) l0 l1 l2 l3 M8)))) (some b9) l3 M3))) (some b4) M
def wX8_hidingsOf (κ : Int32 → mM → Prop) (l0 : Option Nat) (l1 : Option Nat) (M : mM) : Prop :=
    ∃ u : Nat, wX8_hidingsOf_4 κ u l0 l1 0 0 M
def wX8_ofSleeper (κ : Int32 → mM → Prop) (ξ : String → mM → Prop) (l0 : Option Nat) (l1 : Int32) (l2 : Int32) (M : mM) : Prop :=
    m_rc M l0 13 fun b3 => wX8_sleeperNumbered (fun x1 M2 => ((l2 = 0 → m_gR M2 x1 11 2 fun x5 => m_gI M2 x5 7 0 fun x6 => κ x6 M2) ∧ (¬ l2 = 0 → ((l2 = 1 → m_gI M2 x1 11 3 fun x8 => κ x8 M2) ∧ (¬ l2 = 1 → ((l2 = 2 → m_gI M2 x1 11 4 fun x10 => κ x10 M2) ∧ (¬ l2 = 2 → ((l2 = 3 → m_gR M2 x1 11 5 fun x12 => ((x12 = none → κ (-1) M2) ∧ (¬ (x12 = none) → m_gR M2 x1 11 5 fun x14 => m_gI M2 x14 5 0 fun x15 => κ x15 M2))) ∧ (¬ l2 = 3 → ((l2 = 4 → wX8_placeOf (fun x17 M18 => κ x17 M18) x1 M2) ∧ (¬ l2 = 4 → ((l2 = 5 → m_rc M2 l0 13 fun b22 => wX8_headOf (fun x20 M21 => κ x20 M21) (some b22) x1 M2) ∧ (¬ l2 = 5 → ((l2 = 6 → m_gR M2 x1 11 7 fun x24 => ((x24 = none → κ (-1) M2) ∧ (¬ (x24 = none) → m_gR M2 x1 11 7 fun x26 => m_gI M2 x26 9 2 fun x27 => κ x27 M2))) ∧ (¬ l2 = 6 → ((l2 = 7 → m_rc M2 l0 13 fun b31 => wX8_ringOf (fun x29 M30 => κ x29 M30) (some b31) x1 M2) ∧ (¬ l2 = 7 → ((l2 = 8 → m_rc M2 l0 13 fun b35 => wX8_hidingsOf (fun x33 M34 => κ x33 M34) (some b35) x1 M2) ∧ (¬ l2 = 8 → ξ "java/lang/IllegalArgumentException" M2))))))))))))))))))) ξ (some b3) l1 M
def wX8_ofPart (κ : Int32 → mM → Prop) (ξ : String → mM → Prop) (l0 : Option Nat) (l1 : Int32) (l2 : Int32) (M : mM) : Prop :=
    m_rc M l0 13 fun b3 => wX8_partNumbered (fun x1 M2 => ((l2 = 0 → m_gI M2 x1 8 1 fun x5 => κ x5 M2) ∧ (¬ l2 = 0 → ((l2 = 1 → m_gI M2 x1 8 2 fun x7 => κ x7 M2) ∧ (¬ l2 = 1 → ((l2 = 2 → m_gI M2 x1 8 3 fun x9 => κ x9 M2) ∧ (¬ l2 = 2 → ((l2 = 3 → m_gI M2 x1 8 4 fun x11 => κ x11 M2) ∧ (¬ l2 = 3 → ((l2 = 4 → m_rc M2 x1 8 fun b15 => wX3_whereabouts (fun x13 M14 => ((x13 = none → κ (-1) M14) ∧ (¬ (x13 = none) → m_rc M14 x1 8 fun b19 => wX3_whereabouts (fun x17 M18 => m_gI M18 x17 7 0 fun x20 => κ x20 M18) (some b19) M14))) (some b15) M2) ∧ (¬ l2 = 4 → ((l2 = 5 → m_gR M2 x1 8 5 fun x22 => ((x22 = none → κ (-1) M2) ∧ (¬ (x22 = none) → m_gR M2 x1 8 5 fun x24 => m_gI M2 x24 11 0 fun x25 => κ x25 M2))) ∧ (¬ l2 = 5 → ξ "java/lang/IllegalArgumentException" M2))))))))))))) ξ (some b3) l1 M
def wX8_isGood (κ : Int32 → mM → Prop) (ξ : String → mM → Prop) (l0 : Option Nat) (l1 : Int32) (l2 : Int32) (M : mM) : Prop :=
    m_rc M l0 13 fun b3 => wX8_sleeperNumbered (fun x1 M2 => m_rc M2 l0 13 fun b6 => wX8_gateNumbered (fun x4 M5 => m_rc M5 l0 13 fun b9 => wX8_passIsGood (fun x7 M8 => ((x7 = 0 ∨ x7 = 1) ∧ κ x7 M8)) (some b9) x1 x4 M5) ξ (some b6) l2 M2) ξ (some b3) l1 M
def wX8_awakeOnes_36 (κ : Int32 → mM → Prop) (R4 : Option Nat → Int32 → Int32 → mM → Prop) (l0 : Option Nat) (l1 : Int32) (l2 : Int32) (M : mM) : Prop :=
    R4 l0 l1 (l2 + 1) M
def wX8_awakeOnes_4 (κ : Int32 → mM → Prop) : Nat → Option Nat → Int32 → Int32 → mM → Prop
  | 0 => fun _ _ _ _ => False
  | f + 1 => fun (l0 : Option Nat) (l1 : Int32) (l2 : Int32) (M : mM) =>
    m_gR M l0 13 2 fun x1 => m_rc M x1 4 fun b4 => wJx4a65c_size_8abf5 (fun x2 M3 => ((x2 ≤ l2 → κ l1 M3) ∧ (¬ (x2 ≤ l2) → m_gR M3 l0 13 2 fun x6 => m_rc M3 x6 4 fun b9 => wJx4a65c_get_915e3 (fun x7 M8 => m_cast M8 x7 11 (m_gI M8 x7 11 4 fun x10 => ((x10 = 2 → wX8_awakeOnes_36 κ (wX8_awakeOnes_4 κ f) l0 (l1 + 1) l2 M8) ∧ (¬ (x10 = 2) → wX8_awakeOnes_36 κ (wX8_awakeOnes_4 κ f) l0 l1 l2 M8)))) (some b9) l2 M3))) (some b4) M
def wX8_awakeOnes (κ : Int32 → mM → Prop) (l0 : Option Nat) (M : mM) : Prop :=
    ∃ u : Nat, wX8_awakeOnes_4 κ u l0 0 0 M
def wX8_partsOfFate_36 (κ : Int32 → mM → Prop) (R4 : Option Nat → Int32 → Int32 → Int32 → mM → Prop) (l0 : Option Nat) (l1 : Int32) (l2 : Int32) (l3 : Int32) (M : mM) : Prop :=
    R4 l0 l1 l2 (l3 + 1) M
def wX8_partsOfFate_4 (κ : Int32 → mM → Prop) : Nat → Option Nat → Int32 → Int32 → Int32 → mM → Prop
  | 0 => fun _ _ _ _ _ => False
  | f + 1 => fun (l0 : Option Nat) (l1 : Int32) (l2 : Int32) (l3 : Int32) (M : mM) =>
    m_gR M l0 13 3 fun x1 => m_rc M x1 4 fun b4 => wJx4a65c_size_8abf5 (fun x2 M3 => ((x2 ≤ l3 → κ l2 M3) ∧ (¬ (x2 ≤ l3) → m_gR M3 l0 13 3 fun x6 => m_rc M3 x6 4 fun b9 => wJx4a65c_get_915e3 (fun x7 M8 => m_cast M8 x7 8 (m_gI M8 x7 8 4 fun x10 => ((x10 = l1 → wX8_partsOfFate_36 κ (wX8_partsOfFate_4 κ f) l0 l1 (l2 + 1) l3 M8) ∧ (¬ (x10 = l1) → wX8_partsOfFate_36 κ (wX8_partsOfFate_4 κ f) l0 l1 l2 l3 M8)))) (some b9) l3 M3))) (some b4) M
def wX8_partsOfFate (κ : Int32 → mM → Prop) (l0 : Option Nat) (l1 : Int32) (M : mM) : Prop :=
    ∃ u : Nat, wX8_partsOfFate_4 κ u l0 l1 0 0 M
def wX8_goneParts_35 (κ : Int32 → mM → Prop) (R4 : Option Nat → Int32 → Int32 → mM → Prop) (l0 : Option Nat) (l1 : Int32) (l2 : Int32) (M : mM) : Prop :=
    R4 l0 l1 (l2 + 1) M
def wX8_goneParts_4 (κ : Int32 → mM → Prop) : Nat → Option Nat → Int32 → Int32 → mM → Prop
  | 0 => fun _ _ _ _ => False
  | f + 1 => fun (l0 : Option Nat) (l1 : Int32) (l2 : Int32) (M : mM) =>
    m_gR M l0 13 3 fun x1 => m_rc M x1 4 fun b4 => wJx4a65c_size_8abf5 (fun x2 M3 => ((x2 ≤ l2 → κ l1 M3) ∧ (¬ (x2 ≤ l2) → m_gR M3 l0 13 3 fun x6 => m_rc M3 x6 4 fun b9 => wJx4a65c_get_915e3 (fun x7 M8 => m_cast M8 x7 8 (m_rc M8 x7 8 fun b12 => wX3_whereabouts (fun x10 M11 => ((x10 = none → wX8_goneParts_35 κ (wX8_goneParts_4 κ f) l0 (l1 + 1) l2 M11) ∧ (¬ (x10 = none) → wX8_goneParts_35 κ (wX8_goneParts_4 κ f) l0 l1 l2 M11))) (some b12) M8)) (some b9) l2 M3))) (some b4) M
def wX8_goneParts (κ : Int32 → mM → Prop) (l0 : Option Nat) (M : mM) : Prop :=
    ∃ u : Nat, wX8_goneParts_4 κ u l0 0 0 M
def wX8_dutiesOfAll_13 (κ : Int32 → mM → Prop) : Nat → Int32 → Option Nat → Int32 → Int32 → mM → Prop
  | 0 => fun _ _ _ _ _ => False
  | f + 1 => fun (l1 : Int32) (l2 : Option Nat) (l3 : Int32) (l4 : Int32) (M : mM) =>
    ((l3 ≤ l4 → κ l1 M) ∧ (¬ (l3 ≤ l4) → m_ldR M l2 l4 3 fun x2 => m_gI M x2 7 5 fun x3 => (wX8_dutiesOfAll_13 κ f) (l1 + x3) l2 l3 (l4 + 1) M))
def wX8_dutiesOfAll (κ : Int32 → mM → Prop) (l0 : Option Nat) (M : mM) : Prop :=
    m_gR M l0 13 0 fun x1 => m_len M x1 fun x2 => ∃ u : Nat, wX8_dutiesOfAll_13 κ u 0 x1 x2 0 M
def wX8_finesOfAll_13 (κ : Int32 → mM → Prop) : Nat → Int32 → Option Nat → Int32 → Int32 → mM → Prop
  | 0 => fun _ _ _ _ _ => False
  | f + 1 => fun (l1 : Int32) (l2 : Option Nat) (l3 : Int32) (l4 : Int32) (M : mM) =>
    ((l3 ≤ l4 → κ l1 M) ∧ (¬ (l3 ≤ l4) → m_ldR M l2 l4 3 fun x2 => m_gI M x2 7 6 fun x3 => (wX8_finesOfAll_13 κ f) (l1 + x3) l2 l3 (l4 + 1) M))
def wX8_finesOfAll (κ : Int32 → mM → Prop) (l0 : Option Nat) (M : mM) : Prop :=
    m_gR M l0 13 0 fun x1 => m_len M x1 fun x2 => ∃ u : Nat, wX8_finesOfAll_13 κ u 0 x1 x2 0 M
def wX8_night (κ : Int32 → mM → Prop) (ξ : String → mM → Prop) (l0 : Option Nat) (l1 : Int32) (M : mM) : Prop :=
    ((l1 = 0 → m_gI M l0 13 8 fun x2 => κ x2 M) ∧ (¬ l1 = 0 → ((l1 = 1 → m_gI M l0 13 9 fun x4 => κ x4 M) ∧ (¬ l1 = 1 → ((l1 = 2 → m_gR M l0 13 1 fun x6 => m_rc M x6 4 fun b9 => wJx4a65c_size_8abf5 (fun x7 M8 => κ x7 M8) (some b9) M) ∧ (¬ l1 = 2 → ((l1 = 3 → m_gR M l0 13 2 fun x11 => m_rc M x11 4 fun b14 => wJx4a65c_size_8abf5 (fun x12 M13 => κ x12 M13) (some b14) M) ∧ (¬ l1 = 3 → ((l1 = 4 → m_rc M l0 13 fun b18 => wX8_awakeOnes (fun x16 M17 => κ x16 M17) (some b18) M) ∧ (¬ l1 = 4 → ((l1 = 5 → m_gR M l0 13 3 fun x20 => m_rc M x20 4 fun b23 => wJx4a65c_size_8abf5 (fun x21 M22 => κ x21 M22) (some b23) M) ∧ (¬ l1 = 5 → ((l1 = 6 → m_rc M l0 13 fun b27 => wX8_partsOfFate (fun x25 M26 => κ x25 M26) (some b27) 1 M) ∧ (¬ l1 = 6 → ((l1 = 7 → m_rc M l0 13 fun b31 => wX8_partsOfFate (fun x29 M30 => κ x29 M30) (some b31) 2 M) ∧ (¬ l1 = 7 → ((l1 = 8 → m_rc M l0 13 fun b35 => wX8_partsOfFate (fun x33 M34 => κ x33 M34) (some b35) 3 M) ∧ (¬ l1 = 8 → ((l1 = 9 → m_rc M l0 13 fun b39 => wX8_partsOfFate (fun x37 M38 => κ x37 M38) (some b39) 4 M) ∧ (¬ l1 = 9 → ((l1 = 10 → m_rc M l0 13 fun b43 => wX8_partsOfFate (fun x41 M42 => κ x41 M42) (some b43) 5 M) ∧ (¬ l1 = 10 → ((l1 = 11 → m_rc M l0 13 fun b47 => wX8_goneParts (fun x45 M46 => κ x45 M46) (some b47) M) ∧ (¬ l1 = 11 → ((l1 = 12 → m_gR M l0 13 4 fun x49 => m_rc M x49 4 fun b52 => wJx4a65c_size_8abf5 (fun x50 M51 => κ x50 M51) (some b52) M) ∧ (¬ l1 = 12 → ((l1 = 13 → m_gR M l0 13 5 fun x54 => m_gI M x54 10 0 fun x55 => κ x55 M) ∧ (¬ l1 = 13 → ((l1 = 14 → m_gI M l0 13 10 fun x57 => κ x57 M) ∧ (¬ l1 = 14 → ((l1 = 15 → m_rc M l0 13 fun b61 => wX8_dutiesOfAll (fun x59 M60 => κ x59 M60) (some b61) M) ∧ (¬ l1 = 15 → ((l1 = 16 → m_rc M l0 13 fun b65 => wX8_finesOfAll (fun x63 M64 => κ x63 M64) (some b65) M) ∧ (¬ l1 = 16 → ξ "java/lang/IllegalArgumentException" M))))))))))))))))))))))))))))))))))
def wX8_cross_25 (κ : mM → Prop) (l0 : Option Nat) (l2 : Int32) (l3 : Int32) (s0 : Int32) (M : mM) : Prop :=
    ((s0 = 0 → κ M) ∧ (¬ (s0 = 0) → m_gR M l0 13 7 fun x2 => m_ldI M x2 l2 0 fun x3 => ((x3 = (-1) → m_gR M l0 13 7 fun x5 => m_stI M x5 l2 (l3 + 1) fun M6 => κ M6) ∧ (¬ (x3 = (-1)) → κ M))))
def wX8_cross_24 (κ : mM → Prop) (l0 : Option Nat) (l2 : Int32) (l3 : Int32) (M : mM) : Prop :=
    wX8_cross_25 κ l0 l2 l3 0 M
def wX8_cross (κ : mM → Prop) (l0 : Option Nat) (l1 : Int32) (l2 : Int32) (l3 : Int32) (M : mM) : Prop :=
    m_gR M l0 13 7 fun x1 => m_ldI M x1 l1 0 fun x2 => ((x2 = (-1) → wX8_cross_24 κ l0 l2 l3 M) ∧ (¬ (x2 = (-1)) → m_gR M l0 13 7 fun x4 => m_ldI M x4 l1 0 fun x5 => ((l3 < x5 → wX8_cross_24 κ l0 l2 l3 M) ∧ (¬ (l3 < x5) → wX8_cross_25 κ l0 l2 l3 1 M))))
def wX8_findArrivals_126 (κ : mM → Prop) (R35 : Option Nat → Int32 → mM → Prop) (R43 : Option Nat → Int32 → Int32 → mM → Prop) (l0 : Option Nat) (l2 : Int32) (l3 : Int32) (M : mM) : Prop :=
    R43 l0 l2 (l3 + 1) M
def wX8_findArrivals_43 (κ : mM → Prop) (R35 : Option Nat → Int32 → mM → Prop) : Nat → Option Nat → Int32 → Int32 → mM → Prop
  | 0 => fun _ _ _ _ => False
  | f + 1 => fun (l0 : Option Nat) (l2 : Int32) (l3 : Int32) (M : mM) =>
    m_gR M l0 13 1 fun x1 => m_rc M x1 4 fun b4 => wJx4a65c_size_8abf5 (fun x2 M3 => ((x2 ≤ l3 → R35 l0 (l2 + 1) M3) ∧ (¬ (x2 ≤ l3) → m_gR M3 l0 13 1 fun x6 => m_rc M3 x6 4 fun b9 => wJx4a65c_get_915e3 (fun x7 M8 => m_cast M8 x7 5 (m_gI M8 l0 13 9 fun x10 => m_rc M8 x7 5 fun b13 => wX0_isOpenAt (fun x11 M12 => ((x11 = 0 → wX8_findArrivals_126 κ R35 (wX8_findArrivals_43 κ R35 f) l0 l2 l3 M12) ∧ (¬ (x11 = 0) → m_gR M12 x7 5 1 fun x15 => m_gI M12 x15 7 0 fun x16 => m_gR M12 x7 5 2 fun x17 => m_gI M12 x17 7 0 fun x18 => m_rc M12 l0 13 fun b20 => wX8_cross (fun M19 => m_gR M19 x7 5 2 fun x21 => m_gI M19 x21 7 0 fun x22 => m_gR M19 x7 5 1 fun x23 => m_gI M19 x23 7 0 fun x24 => m_rc M19 l0 13 fun b26 => wX8_cross (fun M25 => wX8_findArrivals_126 κ R35 (wX8_findArrivals_43 κ R35 f) l0 l2 l3 M25) (some b26) x22 x24 l2 M19) (some b20) x16 x18 l2 M12))) (some b13) (m_rem (x10 + l2) 24) M8)) (some b9) l3 M3))) (some b4) M
def wX8_findArrivals_35 (κ : mM → Prop) : Nat → Option Nat → Int32 → mM → Prop
  | 0 => fun _ _ _ => False
  | f + 1 => fun (l0 : Option Nat) (l2 : Int32) (M : mM) =>
    ((72 ≤ l2 → κ M) ∧ (¬ (72 ≤ l2) → ∃ u : Nat, wX8_findArrivals_43 κ (wX8_findArrivals_35 κ f) u l0 l2 0 M))
def wX8_findArrivals_26 (κ : mM → Prop) (R2 : Option Nat → Option Nat → Int32 → mM → Prop) (l0 : Option Nat) (l1 : Option Nat) (l2 : Int32) (s0 : Int32) (s1 : Int32) (s2 : Option Nat) (M : mM) : Prop :=
    m_stI M s2 s1 s0 fun M1 => R2 l0 l1 (l2 + 1) M1
def wX8_findArrivals_2 (κ : mM → Prop) : Nat → Option Nat → Option Nat → Int32 → mM → Prop
  | 0 => fun _ _ _ _ => False
  | f + 1 => fun (l0 : Option Nat) (l1 : Option Nat) (l2 : Int32) (M : mM) =>
    ((6 ≤ l2 → ∃ u : Nat, wX8_findArrivals_35 κ u l0 0 M) ∧ (¬ (6 ≤ l2) → m_gR M l0 13 7 fun x2 => m_gI M l1 7 0 fun x3 => ((l2 = x3 → wX8_findArrivals_26 κ (wX8_findArrivals_2 κ f) l0 l1 l2 0 l2 x2 M) ∧ (¬ (l2 = x3) → wX8_findArrivals_26 κ (wX8_findArrivals_2 κ f) l0 l1 l2 (-1) l2 x2 M))))
def wX8_findArrivals (κ : mM → Prop) (l0 : Option Nat) (l1 : Option Nat) (M : mM) : Prop :=
    ∃ u : Nat, wX8_findArrivals_2 κ u l0 l1 0 M
def wX8_way (κ : Int32 → mM → Prop) (ξ : String → mM → Prop) (l0 : Option Nat) (l1 : Int32) (l2 : Int32) (M : mM) : Prop :=
    m_rc M l0 13 fun b3 => wX8_landNumbered (fun x1 M2 => m_rc M2 l0 13 fun b6 => wX8_landNumbered (fun x4 M5 => m_rc M5 l0 13 fun b8 => wX8_findArrivals (fun M7 => m_gR M7 l0 13 7 fun x9 => m_gI M7 x4 7 0 fun x10 => m_ldI M7 x9 x10 0 fun x11 => κ x11 M7) (some b8) x1 M5) ξ (some b6) l2 M2) ξ (some b3) l1 M
def wX8_catchOf (κ : Int32 → mM → Prop) (l0 : Int32) (l1 : Int32) (M : mM) : Prop :=
    κ ((l0 * l1) / 10) M
def wX8_mostCaughtFrom_35 (κ : Int32 → mM → Prop) : Nat → Int32 → Int32 → Option Nat → Int32 → Int32 → Int32 → mM → Prop
  | 0 => fun _ _ _ _ _ _ _ => False
  | f + 1 => fun (l2 : Int32) (l3 : Int32) (l4 : Option Nat) (l5 : Int32) (l6 : Int32) (l7 : Int32) (M : mM) =>
    ((l6 < l7 → κ l5 M) ∧ (¬ (l6 < l7) → m_ldI M l4 (l3 - l7) 0 fun x2 => wX8_catchOf (fun x3 M4 => (wX8_mostCaughtFrom_35 κ f) l2 l3 l4 (m_max l5 (x2 + x3)) l6 (l7 + 1) M4) l2 l7 M))
def wX8_mostCaughtFrom_30 (κ : Int32 → mM → Prop) (l2 : Int32) (l3 : Int32) (l4 : Option Nat) (l5 : Int32) (s0 : Int32) (M : mM) : Prop :=
    ∃ u : Nat, wX8_mostCaughtFrom_35 κ u l2 l3 l4 l5 s0 1 M
def wX8_mostCaughtFrom (κ : Int32 → mM → Prop) (l0 : Option Nat) (l1 : Int32) (l2 : Int32) (l3 : Int32) (M : mM) : Prop :=
    m_gR M l0 13 6 fun x1 => m_ldR M x1 (l1 + 1) 5 fun x2 => m_ldI M x2 l3 0 fun x3 => ((l2 = 0 → wX8_mostCaughtFrom_30 κ l2 l3 x2 x3 0 M) ∧ (¬ (l2 = 0) → wX8_mostCaughtFrom_30 κ l2 l3 x2 x3 (m_min l3 10) M))
def wX8_findMostCaught_63 (κ : mM → Prop) (R40 : Option Nat → Int32 → mM → Prop) : Nat → Option Nat → Int32 → Int32 → Int32 → mM → Prop
  | 0 => fun _ _ _ _ _ => False
  | f + 1 => fun (l0 : Option Nat) (l2 : Int32) (l3 : Int32) (l4 : Int32) (M : mM) =>
    m_gR M l0 13 6 fun x1 => m_ldR M x1 l2 5 fun x2 => m_len M x2 fun x3 => ((x3 ≤ l4 → R40 l0 (l2 + (-1)) M) ∧ (¬ (x3 ≤ l4) → m_gR M l0 13 6 fun x5 => m_ldR M x5 l2 5 fun x6 => m_rc M l0 13 fun b9 => wX8_mostCaughtFrom (fun x7 M8 => m_stI M8 x6 l4 x7 fun M10 => (wX8_findMostCaught_63 κ R40 f) l0 l2 l3 (l4 + 1) M10) (some b9) l2 l3 l4 M))
def wX8_findMostCaught_40 (κ : mM → Prop) : Nat → Option Nat → Int32 → mM → Prop
  | 0 => fun _ _ _ => False
  | f + 1 => fun (l0 : Option Nat) (l2 : Int32) (M : mM) =>
    ((l2 < 0 → κ M) ∧ (¬ (l2 < 0) → m_gR M l0 13 1 fun x2 => m_rc M x2 4 fun b5 => wJx4a65c_get_915e3 (fun x3 M4 => m_cast M4 x3 5 (m_rc M4 l0 13 fun b8 => wX8_hiddenWorth (fun x6 M7 => ∃ u : Nat, wX8_findMostCaught_63 κ (wX8_findMostCaught_40 κ f) u l0 l2 x6 0 M7) (some b8) x3 M4)) (some b5) l2 M))
def wX8_findMostCaught_10 (κ : mM → Prop) : Nat → Option Nat → Int32 → Int32 → mM → Prop
  | 0 => fun _ _ _ _ => False
  | f + 1 => fun (l0 : Option Nat) (l1 : Int32) (l2 : Int32) (M : mM) =>
    m_gR M l0 13 6 fun x1 => m_ldR M x1 l1 5 fun x2 => m_len M x2 fun x3 => ((x3 ≤ l2 → ∃ u : Nat, wX8_findMostCaught_40 κ u l0 (l1 - 1) M) ∧ (¬ (x3 ≤ l2) → m_gR M l0 13 6 fun x5 => m_ldR M x5 l1 5 fun x6 => m_stI M x6 l2 0 fun M7 => (wX8_findMostCaught_10 κ f) l0 l1 (l2 + 1) M7))
def wX8_findMostCaught (κ : mM → Prop) (l0 : Option Nat) (M : mM) : Prop :=
    m_gR M l0 13 1 fun x1 => m_rc M x1 4 fun b4 => wJx4a65c_size_8abf5 (fun x2 M3 => ∃ u : Nat, wX8_findMostCaught_10 κ u l0 x2 0 M3) (some b4) M
def wX8_leastSum_9 (κ : Int32 → mM → Prop) : Nat → Int32 → Option Nat → Int32 → mM → Prop
  | 0 => fun _ _ _ _ => False
  | f + 1 => fun (l1 : Int32) (l2 : Option Nat) (l3 : Int32) (M : mM) =>
    m_len M l2 fun x1 => ((x1 ≤ l3 → κ (-1) M) ∧ (¬ (x1 ≤ l3) → m_ldI M l2 l3 0 fun x3 => ((x3 < l1 → (wX8_leastSum_9 κ f) l1 l2 (l3 + 1) M) ∧ (¬ (x3 < l1) → κ l3 M))))
def wX8_leastSum (κ : Int32 → mM → Prop) (l0 : Option Nat) (l1 : Int32) (M : mM) : Prop :=
    m_gR M l0 13 6 fun x1 => m_ldR M x1 0 5 fun x2 => ∃ u : Nat, wX8_leastSum_9 κ u l1 x2 0 M
def wX8_leastOdds_12 (κ : Int32 → mM → Prop) : Nat → Option Nat → Int32 → Int32 → Int32 → Int32 → Int32 → Int32 → mM → Prop
  | 0 => fun _ _ _ _ _ _ _ _ => False
  | f + 1 => fun (l0 : Option Nat) (l1 : Int32) (l2 : Int32) (l3 : Int32) (l4 : Int32) (l5 : Int32) (l6 : Int32) (M : mM) =>
    ((l5 ≤ l6 → κ l5 M) ∧ (¬ (l5 ≤ l6) → wX8_catchOf (fun x2 M3 => m_gR M3 l0 13 6 fun x4 => m_ldR M3 x4 (l1 + 1) 5 fun x5 => m_ldI M3 x5 (l4 - l6) 0 fun x6 => (((x2 + x6) < l3 → (wX8_leastOdds_12 κ f) l0 l1 l2 l3 l4 l5 (l6 + 1) M3) ∧ (¬ ((x2 + x6) < l3) → κ l6 M3))) l2 l6 M))
def wX8_leastOdds (κ : Int32 → mM → Prop) (l0 : Option Nat) (l1 : Int32) (l2 : Int32) (l3 : Int32) (l4 : Int32) (M : mM) : Prop :=
    ∃ u : Nat, wX8_leastOdds_12 κ u l0 l1 l2 l3 l4 (m_min l4 10) 0 M
def wX8_plannedOdds_12 (κ : Int32 → mM → Prop) : Nat → Option Nat → Int32 → Int32 → Int32 → Int32 → Int32 → mM → Prop
  | 0 => fun _ _ _ _ _ _ _ => False
  | f + 1 => fun (l0 : Option Nat) (l3 : Int32) (l4 : Int32) (l5 : Int32) (l6 : Int32) (l7 : Int32) (M : mM) =>
    ((l3 < l7 → κ l6 M) ∧ (¬ (l3 < l7) → m_gR M l0 13 1 fun x2 => m_rc M x2 4 fun b5 => wJx4a65c_get_915e3 (fun x3 M4 => m_cast M4 x3 5 (m_rc M4 l0 13 fun b8 => wX8_hiddenWorth (fun x6 M7 => m_rc M7 l0 13 fun b11 => wX8_leastOdds (fun x9 M10 => wX8_catchOf (fun x12 M13 => (wX8_plannedOdds_12 κ f) l0 l3 (l4 - x12) (l5 - x9) x9 (l7 + 1) M13) x6 x9 M10) (some b11) l7 x6 l4 l5 M7) (some b8) x3 M4)) (some b5) l7 M))
def wX8_plannedOdds (κ : Int32 → mM → Prop) (l0 : Option Nat) (l1 : Int32) (l2 : Int32) (l3 : Int32) (M : mM) : Prop :=
    ∃ u : Nat, wX8_plannedOdds_12 κ u l0 l3 l1 l2 0 0 M
def wX8_plan_11 (κ : Int32 → mM → Prop) (ξ : String → mM → Prop) (l0 : Option Nat) (l1 : Int32) (l2 : Int32) (M : mM) : Prop :=
    wX8_demandRange (fun M1 => m_rc M1 l0 13 fun b3 => wX8_findMostCaught (fun M2 => m_rc M2 l0 13 fun b6 => wX8_leastSum (fun x4 M5 => ((x4 = (-1) → κ x4 M5) ∧ (¬ (x4 = (-1)) → ((l2 = (-1) → κ x4 M5) ∧ (¬ (l2 = (-1)) → m_rc M5 l0 13 fun b11 => wX8_plannedOdds (fun x9 M10 => κ x9 M10) (some b11) l1 x4 l2 M5))))) (some b6) l1 M2) (some b3) M1) ξ l1 0 2000 M
def wX8_plan (κ : Int32 → mM → Prop) (ξ : String → mM → Prop) (l0 : Option Nat) (l1 : Int32) (l2 : Int32) (M : mM) : Prop :=
    ((l2 = (-1) → wX8_plan_11 κ ξ l0 l1 l2 M) ∧ (¬ (l2 = (-1)) → m_rc M l0 13 fun b4 => wX8_gateNumbered (fun x2 M3 => wX8_plan_11 κ ξ l0 l1 l2 M3) ξ (some b4) l2 M))
def wX8_wouldPay (κ : Int32 → mM → Prop) (ξ : String → mM → Prop) (l0 : Option Nat) (l1 : Int32) (M : mM) : Prop :=
    m_rc M l0 13 fun b3 => wX8_gateNumbered (fun x1 M2 => m_gR M2 x1 5 5 fun x4 => m_rc M2 x4 4 fun b7 => wJx4a65c_isEmpty_aae02 (fun x5 M6 => ((x5 = 0 → m_gR M6 x1 5 5 fun x9 => m_rc M6 x9 4 fun b12 => wJx4a65c_get_915e3 (fun x10 M11 => m_cast M11 x10 11 (m_rc M11 l0 13 fun b15 => wX8_passIsGood (fun x13 M14 => ((x13 = 0 → κ 0 M14) ∧ (¬ (x13 = 0) → m_gR M14 x10 11 2 fun x17 => m_rc M14 x1 5 fun b20 => wX0_across (fun x18 M19 => m_rc M19 l0 13 fun b23 => wX8_partsThatComeIn (fun x21 M22 => m_rc M22 l0 13 fun b26 => wX8_worthOf (fun x24 M25 => m_rc M25 x18 7 fun b29 => wX2_dutyOn (fun x27 M28 => κ x27 M28) (some b29) x24 M25) (some b26) x21 M22) (some b23) x10 x18 M19) (some b20) x17 M14))) (some b15) x10 x1 M11)) (some b12) 0 M6) ∧ (¬ (x5 = 0) → κ 0 M6))) (some b7) M2) ξ (some b3) l1 M
def wX8_quotasOfAll_13 (κ : Int32 → mM → Prop) : Nat → Int32 → Option Nat → Int32 → Int32 → mM → Prop
  | 0 => fun _ _ _ _ _ => False
  | f + 1 => fun (l1 : Int32) (l2 : Option Nat) (l3 : Int32) (l4 : Int32) (M : mM) =>
    ((l3 ≤ l4 → κ l1 M) ∧ (¬ (l3 ≤ l4) → m_ldR M l2 l4 3 fun x2 => m_gI M x2 7 3 fun x3 => (wX8_quotasOfAll_13 κ f) (l1 + x3) l2 l3 (l4 + 1) M))
def wX8_quotasOfAll (κ : Int32 → mM → Prop) (l0 : Option Nat) (M : mM) : Prop :=
    m_gR M l0 13 0 fun x1 => m_len M x1 fun x2 => ∃ u : Nat, wX8_quotasOfAll_13 κ u 0 x1 x2 0 M
def wX8_sleeperIsSound_85 (κ : Int32 → mM → Prop) (l0 : Option Nat) (l1 : Option Nat) (s0 : Int32) (s1 : Int32) (M : mM) : Prop :=
    ((s1 = s0 → m_gI M l1 11 3 fun x2 => ((x2 < 0 → κ 0 M) ∧ (¬ (x2 < 0) → m_gI M l1 11 3 fun x4 => ((x4 ≤ 9 → m_gI M l1 11 4 fun x6 => ((x6 = 2 → m_rc M l0 13 fun b10 => wX8_headOf (fun x8 M9 => ((x8 = 0 → κ 1 M9) ∧ (¬ (x8 = 0) → κ 0 M9))) (some b10) l1 M) ∧ (¬ (x6 = 2) → κ 1 M))) ∧ (¬ (x4 ≤ 9) → κ 0 M))))) ∧ (¬ (s1 = s0) → κ 0 M))
def wX8_sleeperIsSound_60 (κ : Int32 → mM → Prop) (R4 : Option Nat → Option Nat → Int32 → Int32 → mM → Prop) (l0 : Option Nat) (l1 : Option Nat) (l2 : Int32) (l3 : Int32) (l4 : Int32) (M : mM) : Prop :=
    R4 l0 l1 (l2 + l4) (l3 + 1) M
def wX8_sleeperIsSound_4 (κ : Int32 → mM → Prop) : Nat → Option Nat → Option Nat → Int32 → Int32 → mM → Prop
  | 0 => fun _ _ _ _ _ => False
  | f + 1 => fun (l0 : Option Nat) (l1 : Option Nat) (l2 : Int32) (l3 : Int32) (M : mM) =>
    m_gR M l0 13 1 fun x1 => m_rc M x1 4 fun b4 => wJx4a65c_size_8abf5 (fun x2 M3 => ((x2 ≤ l3 → m_gI M3 l1 11 4 fun x6 => ((x6 = 1 → wX8_sleeperIsSound_85 κ l0 l1 1 l2 M3) ∧ (¬ (x6 = 1) → wX8_sleeperIsSound_85 κ l0 l1 0 l2 M3))) ∧ (¬ (x2 ≤ l3) → m_gR M3 l0 13 1 fun x8 => m_rc M3 x8 4 fun b11 => wJx4a65c_get_915e3 (fun x9 M10 => m_cast M10 x9 5 (m_rc M10 x9 5 fun b14 => wX0_timesInLine (fun x12 M13 => ((x12 ≤ 0 → wX8_sleeperIsSound_60 κ (wX8_sleeperIsSound_4 κ f) l0 l1 l2 l3 x12 M13) ∧ (¬ (x12 ≤ 0) → m_gR M13 l0 13 1 fun x16 => m_rc M13 x16 4 fun b19 => wJx4a65c_get_915e3 (fun x17 M18 => m_cast M18 x17 5 (m_gR M18 l1 11 2 fun x20 => m_rc M18 x17 5 fun b23 => wX0_isAt (fun x21 M22 => ((x21 = 0 → κ 0 M22) ∧ (¬ (x21 = 0) → wX8_sleeperIsSound_60 κ (wX8_sleeperIsSound_4 κ f) l0 l1 l2 l3 x12 M22))) (some b23) x20 M18)) (some b19) l3 M13))) (some b14) l1 M10)) (some b11) l3 M3))) (some b4) M
def wX8_sleeperIsSound (κ : Int32 → mM → Prop) (l0 : Option Nat) (l1 : Option Nat) (M : mM) : Prop :=
    ∃ u : Nat, wX8_sleeperIsSound_4 κ u l0 l1 0 0 M
def wX8_isSound_64 (κ : Int32 → mM → Prop) : Nat → Option Nat → Int32 → mM → Prop
  | 0 => fun _ _ _ => False
  | f + 1 => fun (l0 : Option Nat) (l1 : Int32) (M : mM) =>
    m_gR M l0 13 1 fun x1 => m_rc M x1 4 fun b4 => wJx4a65c_size_8abf5 (fun x2 M3 => ((x2 ≤ l1 → κ 1 M3) ∧ (¬ (x2 ≤ l1) → m_gR M3 l0 13 1 fun x6 => m_rc M3 x6 4 fun b9 => wJx4a65c_get_915e3 (fun x7 M8 => m_cast M8 x7 5 (m_rc M8 x7 5 fun b12 => wX0_babiesAreAhead (fun x10 M11 => ((x10 = 0 → κ 0 M11) ∧ (¬ (x10 = 0) → (wX8_isSound_64 κ f) l0 (l1 + 1) M11))) (some b12) M8)) (some b9) l1 M3))) (some b4) M
def wX8_isSound_25 (κ : Int32 → mM → Prop) : Nat → Option Nat → Int32 → mM → Prop
  | 0 => fun _ _ _ => False
  | f + 1 => fun (l0 : Option Nat) (l1 : Int32) (M : mM) =>
    m_gR M l0 13 2 fun x1 => m_rc M x1 4 fun b4 => wJx4a65c_size_8abf5 (fun x2 M3 => ((x2 ≤ l1 → ∃ u : Nat, wX8_isSound_64 κ u l0 0 M3) ∧ (¬ (x2 ≤ l1) → m_gR M3 l0 13 2 fun x6 => m_rc M3 x6 4 fun b9 => wJx4a65c_get_915e3 (fun x7 M8 => m_cast M8 x7 11 (m_rc M8 l0 13 fun b12 => wX8_sleeperIsSound (fun x10 M11 => ((x10 = 0 → κ 0 M11) ∧ (¬ (x10 = 0) → (wX8_isSound_25 κ f) l0 (l1 + 1) M11))) (some b12) x7 M8)) (some b9) l1 M3))) (some b4) M
def wX8_isSound (κ : Int32 → mM → Prop) (l0 : Option Nat) (M : mM) : Prop :=
    m_rc M l0 13 fun b3 => wX8_quotasOfAll (fun x1 M2 => ((x1 = 30 → m_gR M2 l0 13 4 fun x5 => m_rc M2 x5 4 fun b8 => wJx4a65c_size_8abf5 (fun x6 M7 => ((x6 ≤ 40 → ∃ u : Nat, wX8_isSound_25 κ u l0 0 M7) ∧ (¬ (x6 ≤ 40) → κ 0 M7))) (some b8) M2) ∧ (¬ (x1 = 30) → κ 0 M2))) (some b3) M
def wX8_digest_240 (κ : Int64 → mM → Prop) : Nat → Option Nat → Int64 → Int32 → mM → Prop
  | 0 => fun _ _ _ _ => False
  | f + 1 => fun (l0 : Option Nat) (l1 : Int64) (l3 : Int32) (M : mM) =>
    ((6 ≤ l3 → m_rc M l0 13 fun b4 => wX8_plan (fun x2 M3 => m_rc M3 l0 13 fun b7 => wX8_isSound (fun x5 M6 => ((x5 = 0 → κ ((((l1 * 31) + (Int32.toInt64 x2)) * 31) + (Int32.toInt64 0)) M6) ∧ (¬ (x5 = 0) → κ ((((l1 * 31) + (Int32.toInt64 x2)) * 31) + (Int32.toInt64 1)) M6))) (some b7) M3) (fun _ _ => False) (some b4) 20 (-1) M) ∧ (¬ (6 ≤ l3) → m_rc M l0 13 fun b11 => wX8_way (fun x9 M10 => (wX8_digest_240 κ f) l0 ((l1 * 31) + (Int32.toInt64 x9)) (l3 + 1) M10) (fun _ _ => False) (some b11) 0 l3 M))
def wX8_digest_205 (κ : Int64 → mM → Prop) (R191 : Option Nat → Int64 → Int32 → mM → Prop) : Nat → Option Nat → Int64 → Int32 → Int32 → mM → Prop
  | 0 => fun _ _ _ _ _ => False
  | f + 1 => fun (l0 : Option Nat) (l1 : Int64) (l3 : Int32) (l4 : Int32) (M : mM) =>
    ((5 < l4 → R191 l0 l1 (l3 + 1) M) ∧ (¬ (5 < l4) → m_rc M l0 13 fun b4 => wX8_ofPart (fun x2 M3 => (wX8_digest_205 κ R191 f) l0 ((l1 * 31) + (Int32.toInt64 x2)) l3 (l4 + 1) M3) (fun _ _ => False) (some b4) l3 l4 M))
def wX8_digest_191 (κ : Int64 → mM → Prop) : Nat → Option Nat → Int64 → Int32 → mM → Prop
  | 0 => fun _ _ _ _ => False
  | f + 1 => fun (l0 : Option Nat) (l1 : Int64) (l3 : Int32) (M : mM) =>
    m_gR M l0 13 3 fun x1 => m_rc M x1 4 fun b4 => wJx4a65c_size_8abf5 (fun x2 M3 => ((x2 ≤ l3 → ∃ u : Nat, wX8_digest_240 κ u l0 l1 0 M3) ∧ (¬ (x2 ≤ l3) → ∃ u : Nat, wX8_digest_205 κ (wX8_digest_191 κ f) u l0 l1 l3 3 M3))) (some b4) M
def wX8_digest_155 (κ : Int64 → mM → Prop) (R141 : Option Nat → Int64 → Int32 → mM → Prop) : Nat → Option Nat → Int64 → Int32 → Int32 → mM → Prop
  | 0 => fun _ _ _ _ _ => False
  | f + 1 => fun (l0 : Option Nat) (l1 : Int64) (l3 : Int32) (l4 : Int32) (M : mM) =>
    ((8 < l4 → R141 l0 l1 (l3 + 1) M) ∧ (¬ (8 < l4) → m_rc M l0 13 fun b4 => wX8_ofSleeper (fun x2 M3 => (wX8_digest_155 κ R141 f) l0 ((l1 * 31) + (Int32.toInt64 x2)) l3 (l4 + 1) M3) (fun _ _ => False) (some b4) l3 l4 M))
def wX8_digest_141 (κ : Int64 → mM → Prop) : Nat → Option Nat → Int64 → Int32 → mM → Prop
  | 0 => fun _ _ _ _ => False
  | f + 1 => fun (l0 : Option Nat) (l1 : Int64) (l3 : Int32) (M : mM) =>
    m_gR M l0 13 2 fun x1 => m_rc M x1 4 fun b4 => wJx4a65c_size_8abf5 (fun x2 M3 => ((x2 ≤ l3 → ∃ u : Nat, wX8_digest_191 κ u l0 l1 0 M3) ∧ (¬ (x2 ≤ l3) → ∃ u : Nat, wX8_digest_155 κ (wX8_digest_141 κ f) u l0 l1 l3 0 M3))) (some b4) M
def wX8_digest_92 (κ : Int64 → mM → Prop) (R78 : Option Nat → Int64 → Int32 → mM → Prop) : Nat → Option Nat → Int64 → Int32 → Int32 → mM → Prop
  | 0 => fun _ _ _ _ _ => False
  | f + 1 => fun (l0 : Option Nat) (l1 : Int64) (l3 : Int32) (l4 : Int32) (M : mM) =>
    ((9 < l4 → m_rc M l0 13 fun b4 => wX8_wouldPay (fun x2 M3 => R78 l0 ((l1 * 31) + (Int32.toInt64 x2)) (l3 + 1) M3) (fun _ _ => False) (some b4) l3 M) ∧ (¬ (9 < l4) → m_rc M l0 13 fun b7 => wX8_ofGate (fun x5 M6 => (wX8_digest_92 κ R78 f) l0 ((l1 * 31) + (Int32.toInt64 x5)) l3 (l4 + 1) M6) (fun _ _ => False) (some b7) l3 l4 M))
def wX8_digest_78 (κ : Int64 → mM → Prop) : Nat → Option Nat → Int64 → Int32 → mM → Prop
  | 0 => fun _ _ _ _ => False
  | f + 1 => fun (l0 : Option Nat) (l1 : Int64) (l3 : Int32) (M : mM) =>
    m_gR M l0 13 1 fun x1 => m_rc M x1 4 fun b4 => wJx4a65c_size_8abf5 (fun x2 M3 => ((x2 ≤ l3 → ∃ u : Nat, wX8_digest_141 κ u l0 l1 0 M3) ∧ (¬ (x2 ≤ l3) → ∃ u : Nat, wX8_digest_92 κ (wX8_digest_78 κ f) u l0 l1 l3 2 M3))) (some b4) M
def wX8_digest_42 (κ : Int64 → mM → Prop) (R33 : Option Nat → Int64 → Int32 → mM → Prop) : Nat → Option Nat → Int64 → Int32 → Int32 → mM → Prop
  | 0 => fun _ _ _ _ _ => False
  | f + 1 => fun (l0 : Option Nat) (l1 : Int64) (l3 : Int32) (l4 : Int32) (M : mM) =>
    ((8 < l4 → R33 l0 l1 (l3 + 1) M) ∧ (¬ (8 < l4) → m_rc M l0 13 fun b4 => wX8_ofLand (fun x2 M3 => (wX8_digest_42 κ R33 f) l0 ((l1 * 31) + (Int32.toInt64 x2)) l3 (l4 + 1) M3) (fun _ _ => False) (some b4) l3 l4 M))
def wX8_digest_33 (κ : Int64 → mM → Prop) : Nat → Option Nat → Int64 → Int32 → mM → Prop
  | 0 => fun _ _ _ _ => False
  | f + 1 => fun (l0 : Option Nat) (l1 : Int64) (l3 : Int32) (M : mM) =>
    ((6 ≤ l3 → ∃ u : Nat, wX8_digest_78 κ u l0 l1 0 M) ∧ (¬ (6 ≤ l3) → ∃ u : Nat, wX8_digest_42 κ (wX8_digest_33 κ f) u l0 l1 l3 0 M))
def wX8_digest_6 (κ : Int64 → mM → Prop) : Nat → Option Nat → Int64 → Int32 → mM → Prop
  | 0 => fun _ _ _ _ => False
  | f + 1 => fun (l0 : Option Nat) (l1 : Int64) (l3 : Int32) (M : mM) =>
    ((16 < l3 → ∃ u : Nat, wX8_digest_33 κ u l0 l1 0 M) ∧ (¬ (16 < l3) → m_rc M l0 13 fun b4 => wX8_night (fun x2 M3 => (wX8_digest_6 κ f) l0 ((l1 * 31) + (Int32.toInt64 x2)) (l3 + 1) M3) (fun _ _ => False) (some b4) l3 M))
def wX8_digest (κ : Int64 → mM → Prop) (l0 : Option Nat) (M : mM) : Prop :=
    ∃ u : Nat, wX8_digest_6 κ u l0 6007 0 M
def wX14_init_73 (g : Nat → Nat) (κ : mM → Prop) : Nat → Nat → Nat → Option Nat → Int32 → mM → Prop
  | 0 => fun _ _ _ _ _ => False
  | f + 1 => fun (k9 n9 : Nat) (l0 : Option Nat) (l1 : Int32) (M : mM) =>
    ((k9 ≤ 13 ∧ n9 ≤ 870) ∧ ((6 ≤ l1 → ((k9 ≤ 13 ∧ n9 ≤ 870) ∧ κ M)) ∧ (¬ (6 ≤ l1) → m_gR M l0 19 6 fun x2 => ((k9 + 1 ≤ 13 ∧ n9 + 6 ≤ 870) ∧ m_new M 16 [.int 0, .int 0, .int 0, .int 0, .int 0, .int 0] fun q3 M4 => m_rc M4 (some q3) 16 fun b6 => wX11_init (fun M5 => m_stR M5 x2 l1 (some q3) 4 fun M7 => (wX14_init_73 g κ f) (k9 + 1) (n9 + 6) l0 (l1 + 1) M7) (some b6) M4))))
def wX14_init (g : Nat → Nat) (κ : mM → Prop) (l0 : Option Nat) (M : mM) : Prop :=
    ∃ b9 : Nat, l0 = some b9 ∧ m_p M l0 19 3 (.int 3) fun M1 => ((0 + 1 ≤ 13 ∧ 0 + 6 ≤ 870) ∧ m_newR M1 4 6 6 fun q2 M3 => m_p M3 l0 19 6 (va_rf (some q2)) fun M4 => (((0 + 1) + 1 ≤ 13 ∧ (0 + 6) + 3 ≤ 870) ∧ m_new M4 4 [.int 0, .null, .int 0] fun q5 M6 => m_rc M6 (some q5) 4 fun b8 => wJx4a65c_init_da8c8 g (fun M7 => m_p M7 l0 19 7 (va_rf (some q5)) fun M9 => ((((0 + 1) + 1) + 1 ≤ 13 ∧ ((0 + 6) + 3) + 3 ≤ 870) ∧ m_new M9 4 [.int 0, .null, .int 0] fun q10 M11 => m_rc M11 (some q10) 4 fun b13 => wJx4a65c_init_da8c8 g (fun M12 => m_p M12 l0 19 8 (va_rf (some q10)) fun M14 => (((((0 + 1) + 1) + 1) + 1 ≤ 13 ∧ (((0 + 6) + 3) + 3) + 3 ≤ 870) ∧ m_new M14 4 [.int 0, .null, .int 0] fun q15 M16 => m_rc M16 (some q15) 4 fun b18 => wJx4a65c_init_da8c8 g (fun M17 => m_p M17 l0 19 9 (va_rf (some q15)) fun M19 => ((((((0 + 1) + 1) + 1) + 1) + 1 ≤ 13 ∧ ((((0 + 6) + 3) + 3) + 3) + 3 ≤ 870) ∧ m_new M19 4 [.int 0, .null, .int 0] fun q20 M21 => m_rc M21 (some q20) 4 fun b23 => wJx4a65c_init_da8c8 g (fun M22 => m_p M22 l0 19 10 (va_rf (some q20)) fun M24 => (((((((0 + 1) + 1) + 1) + 1) + 1) + 1 ≤ 13 ∧ (((((0 + 6) + 3) + 3) + 3) + 3) + 776 ≤ 870) ∧ m_newI M24 1 776 776 fun q25 M26 => m_p M26 l0 19 11 (va_rf (some q25)) fun M27 => ∃ u : Nat, wX14_init_73 g κ u ((((((0 + 1) + 1) + 1) + 1) + 1) + 1) ((((((0 + 6) + 3) + 3) + 3) + 3) + 776) l0 0 M27)) (some b23) M21)) (some b18) M16)) (some b13) M11)) (some b8) M6))
def wX14_thrown (κ : Int32 → mM → Prop) (l0 : Option Nat) (M : mM) : Prop :=
    m_gI M l0 19 0 fun x1 => κ x1 M
def wX14_refuse (κ : Int32 → mM → Prop) (l0 : Option Nat) (l1 : Int32) (M : mM) : Prop :=
    m_p M l0 19 0 (.int l1) fun M1 => κ 0 M1
def wX14_is (κ : Int32 → mM → Prop) (l0 : Int32) (l1 : Int32) (l2 : Int32) (M : mM) : Prop :=
    ((l0 < l1 → κ 0 M) ∧ (¬ (l0 < l1) → ((l2 < l0 → κ 0 M) ∧ (¬ (l2 < l0) → κ 1 M))))
def wX14_isLand (κ : Int32 → mM → Prop) (l0 : Option Nat) (l1 : Int32) (M : mM) : Prop :=
    wX14_is (fun x1 M2 => ((x1 = 0 ∨ x1 = 1) ∧ κ x1 M2)) l1 0 5 M
def wX14_isGate (κ : Int32 → mM → Prop) (l0 : Option Nat) (l1 : Int32) (M : mM) : Prop :=
    m_gR M l0 19 7 fun x1 => m_rc M x1 4 fun b4 => wJx4a65c_size_8abf5 (fun x2 M3 => wX14_is (fun x5 M6 => ((x5 = 0 ∨ x5 = 1) ∧ κ x5 M6)) l1 0 (x2 - 1) M3) (some b4) M
def wX14_isSleeper (κ : Int32 → mM → Prop) (l0 : Option Nat) (l1 : Int32) (M : mM) : Prop :=
    m_gR M l0 19 8 fun x1 => m_rc M x1 4 fun b4 => wJx4a65c_size_8abf5 (fun x2 M3 => wX14_is (fun x5 M6 => ((x5 = 0 ∨ x5 = 1) ∧ κ x5 M6)) l1 0 (x2 - 1) M3) (some b4) M
def wX14_isPart (κ : Int32 → mM → Prop) (l0 : Option Nat) (l1 : Int32) (M : mM) : Prop :=
    m_gR M l0 19 9 fun x1 => m_rc M x1 4 fun b4 => wJx4a65c_size_8abf5 (fun x2 M3 => wX14_is (fun x5 M6 => ((x5 = 0 ∨ x5 = 1) ∧ κ x5 M6)) l1 0 (x2 - 1) M3) (some b4) M
def wX14_land_39 (κ : Int32 → mM → Prop) (l0 : Option Nat) (M : mM) : Prop :=
    m_rc M l0 19 fun b3 => wX14_refuse (fun x1 M2 => κ x1 M2) (some b3) 2 M
def wX14_land (κ : Int32 → mM → Prop) (l0 : Option Nat) (l1 : Int32) (l2 : Int32) (l3 : Int32) (M : mM) : Prop :=
    m_p M l0 19 0 (.int 0) fun M1 => m_rc M1 l0 19 fun b4 => wX14_isLand (fun x2 M3 => ((x2 = 0 → m_rc M3 l0 19 fun b23 => wX14_refuse (fun x21 M22 => κ x21 M22) (some b23) 1 M3) ∧ (¬ (x2 = 0) → wX14_is (fun x6 M7 => ((x6 = 0 → wX14_land_39 κ l0 M7) ∧ (¬ (x6 = 0) → wX14_is (fun x9 M10 => ((x9 = 0 → wX14_land_39 κ l0 M10) ∧ (¬ (x9 = 0) → m_gR M10 l0 19 6 fun x12 => m_ldR M10 x12 l1 4 fun x13 => m_gI M10 x13 16 0 fun x14 => m_gR M10 l0 19 6 fun x15 => m_ldR M10 x15 l1 4 fun x16 => m_p M10 x16 16 0 (.int l2) fun M17 => m_gR M17 l0 19 6 fun x18 => m_ldR M17 x18 l1 4 fun x19 => m_p M17 x19 16 1 (.int l3) fun M20 => κ x14 M20))) l3 0 99 M7))) l2 0 50 M3))) (some b4) l1 M1
def wX14_trade_21 (κ : Int32 → mM → Prop) (l0 : Option Nat) (M : mM) : Prop :=
    m_rc M l0 19 fun b3 => wX14_refuse (fun x1 M2 => κ x1 M2) (some b3) 1 M
def wX14_trade_36 (κ : Int32 → mM → Prop) (l0 : Option Nat) (M : mM) : Prop :=
    m_rc M l0 19 fun b3 => wX14_refuse (fun x1 M2 => κ x1 M2) (some b3) 2 M
def wX14_trade_71 (κ : Int32 → mM → Prop) (l0 : Option Nat) (M : mM) : Prop :=
    m_rc M l0 19 fun b3 => wX14_refuse (fun x1 M2 => κ x1 M2) (some b3) 3 M
def wX14_trade (κ : Int32 → mM → Prop) (l0 : Option Nat) (l1 : Int32) (l2 : Int32) (l3 : Int32) (M : mM) : Prop :=
    m_p M l0 19 0 (.int 0) fun M1 => m_rc M1 l0 19 fun b4 => wX14_isLand (fun x2 M3 => ((x2 = 0 → wX14_trade_21 κ l0 M3) ∧ (¬ (x2 = 0) → m_rc M3 l0 19 fun b8 => wX14_isLand (fun x6 M7 => ((x6 = 0 → wX14_trade_21 κ l0 M7) ∧ (¬ (x6 = 0) → ((l1 = l2 → wX14_trade_36 κ l0 M7) ∧ (¬ (l1 = l2) → ((0 ≤ l3 → m_gR M7 l0 19 6 fun x12 => m_ldR M7 x12 l1 4 fun x13 => m_gI M7 x13 16 2 fun x14 => ((x14 < l3 → wX14_trade_71 κ l0 M7) ∧ (¬ (x14 < l3) → m_gR M7 l0 19 6 fun x16 => m_ldR M7 x16 l2 4 fun x17 => m_gI M7 x17 16 2 fun x18 => (((x18 + l3) ≤ 30 → m_gR M7 l0 19 6 fun x20 => m_ldR M7 x20 l1 4 fun x21 => m_gI M7 x21 16 2 fun x22 => m_p M7 x21 16 2 (.int (x22 - l3)) fun M23 => m_gR M23 l0 19 6 fun x24 => m_ldR M23 x24 l2 4 fun x25 => m_gI M23 x25 16 2 fun x26 => m_p M23 x25 16 2 (.int (x26 + l3)) fun M27 => m_gR M27 l0 19 6 fun x28 => m_ldR M27 x28 l2 4 fun x29 => m_gI M27 x29 16 2 fun x30 => κ x30 M27) ∧ (¬ ((x18 + l3) ≤ 30) → wX14_trade_71 κ l0 M7))))) ∧ (¬ (0 ≤ l3) → wX14_trade_36 κ l0 M7))))))) (some b8) l2 M3))) (some b4) l1 M1
def wX14_gate_21 (g : Nat → Nat) (κ : Int32 → mM → Prop) (l0 : Option Nat) (M : mM) : Prop :=
    m_rc M l0 19 fun b3 => wX14_refuse (fun x1 M2 => κ x1 M2) (some b3) 1 M
def wX14_gate_53 (g : Nat → Nat) (κ : Int32 → mM → Prop) (l0 : Option Nat) (M : mM) : Prop :=
    m_rc M l0 19 fun b3 => wX14_refuse (fun x1 M2 => κ x1 M2) (some b3) 2 M
def wX14_gate (g : Nat → Nat) (κ : Int32 → mM → Prop) (l0 : Option Nat) (l1 : Int32) (l2 : Int32) (l3 : Int32) (l4 : Int32) (M : mM) : Prop :=
    m_p M l0 19 0 (.int 0) fun M1 => m_rc M1 l0 19 fun b4 => wX14_isLand (fun x2 M3 => ((x2 = 0 → wX14_gate_21 g κ l0 M3) ∧ (¬ (x2 = 0) → m_rc M3 l0 19 fun b8 => wX14_isLand (fun x6 M7 => ((x6 = 0 → wX14_gate_21 g κ l0 M7) ∧ (¬ (x6 = 0) → ((l1 = l2 → wX14_gate_53 g κ l0 M7) ∧ (¬ (l1 = l2) → wX14_is (fun x11 M12 => ((x11 = 0 → wX14_gate_53 g κ l0 M12) ∧ (¬ (x11 = 0) → wX14_is (fun x14 M15 => ((x14 = 0 → wX14_gate_53 g κ l0 M15) ∧ (¬ (x14 = 0) → m_gR M15 l0 19 7 fun x17 => m_rc M15 x17 4 fun b20 => wJx4a65c_size_8abf5 (fun x18 M19 => ((x18 = 8 → m_rc M19 l0 19 fun b40 => wX14_refuse (fun x38 M39 => κ x38 M39) (some b40) 3 M19) ∧ (¬ (x18 = 8) → m_new M19 15 [.int 0, .int 0, .int 0, .int 0, .int 0, .int 0, .null, .null] fun q22 M23 => m_rc M23 (some q22) 15 fun b25 => wX10_init g (fun M24 => m_p M24 (some q22) 15 0 (.int l1) fun M26 => m_p M26 (some q22) 15 1 (.int l2) fun M27 => m_p M27 (some q22) 15 2 (.int l3) fun M28 => m_p M28 (some q22) 15 3 (.int l4) fun M29 => m_gR M29 l0 19 7 fun x30 => m_rc M29 x30 4 fun b33 => wJx4a65c_add_9ea2d g 10 (fun x31 M32 => m_gR M32 l0 19 7 fun x34 => m_rc M32 x34 4 fun b37 => wJx4a65c_size_8abf5 (fun x35 M36 => κ (x35 - 1) M36) (some b37) M32) (some b33) (some q22) M29) (some b25) M23))) (some b20) M15))) l4 1 24 M12))) l3 0 23 M7))))) (some b8) l2 M3))) (some b4) l1 M1
def wX14_odds (κ : Int32 → mM → Prop) (l0 : Option Nat) (l1 : Int32) (l2 : Int32) (M : mM) : Prop :=
    m_p M l0 19 0 (.int 0) fun M1 => m_rc M1 l0 19 fun b4 => wX14_isGate (fun x2 M3 => ((x2 = 0 → m_rc M3 l0 19 fun b24 => wX14_refuse (fun x22 M23 => κ x22 M23) (some b24) 1 M3) ∧ (¬ (x2 = 0) → wX14_is (fun x6 M7 => ((x6 = 0 → m_rc M7 l0 19 fun b21 => wX14_refuse (fun x19 M20 => κ x19 M20) (some b21) 2 M7) ∧ (¬ (x6 = 0) → m_gR M7 l0 19 7 fun x9 => m_rc M7 x9 4 fun b12 => wJx4a65c_get_915e3 (fun x10 M11 => m_cast M11 x10 15 (m_gI M11 x10 15 4 fun x13 => m_gR M11 l0 19 7 fun x14 => m_rc M11 x14 4 fun b17 => wJx4a65c_get_915e3 (fun x15 M16 => m_cast M16 x15 15 (m_p M16 x15 15 4 (.int l2) fun M18 => κ x13 M18)) (some b17) l1 M11)) (some b12) l1 M7))) l2 0 10 M3))) (some b4) l1 M1
def wX14_relieve (κ : Int32 → mM → Prop) (l0 : Option Nat) (l1 : Int32) (M : mM) : Prop :=
    m_p M l0 19 0 (.int 0) fun M1 => m_rc M1 l0 19 fun b4 => wX14_isGate (fun x2 M3 => ((x2 = 0 → m_rc M3 l0 19 fun b18 => wX14_refuse (fun x16 M17 => κ x16 M17) (some b18) 1 M3) ∧ (¬ (x2 = 0) → m_gR M3 l0 19 7 fun x6 => m_rc M3 x6 4 fun b9 => wJx4a65c_get_915e3 (fun x7 M8 => m_cast M8 x7 15 (m_gI M8 x7 15 5 fun x10 => m_gR M8 l0 19 7 fun x11 => m_rc M8 x11 4 fun b14 => wJx4a65c_get_915e3 (fun x12 M13 => m_cast M13 x12 15 (m_p M13 x12 15 5 (.int 0) fun M15 => κ x10 M15)) (some b14) l1 M8)) (some b9) l1 M3))) (some b4) l1 M1
def wX14_sleeper (g : Nat → Nat) (κ : Int32 → mM → Prop) (l0 : Option Nat) (l1 : Int32) (l2 : Int32) (l3 : Int32) (M : mM) : Prop :=
    m_p M l0 19 0 (.int 0) fun M1 => m_rc M1 l0 19 fun b4 => wX14_isLand (fun x2 M3 => ((x2 = 0 → m_rc M3 l0 19 fun b37 => wX14_refuse (fun x35 M36 => κ x35 M36) (some b37) 1 M3) ∧ (¬ (x2 = 0) → wX14_is (fun x6 M7 => ((x6 = 0 → m_rc M7 l0 19 fun b34 => wX14_refuse (fun x32 M33 => κ x32 M33) (some b34) 2 M7) ∧ (¬ (x6 = 0) → m_gR M7 l0 19 8 fun x9 => m_rc M7 x9 4 fun b12 => wJx4a65c_size_8abf5 (fun x10 M11 => ((x10 = 12 → m_rc M11 l0 19 fun b31 => wX14_refuse (fun x29 M30 => κ x29 M30) (some b31) 3 M11) ∧ (¬ (x10 = 12) → m_new M11 18 [.int 0, .int 0, .int 0, .int 0, .int 0, .int 0, .int 0, .int 0, .int 0] fun q14 M15 => m_rc M15 (some q14) 18 fun b17 => wX13_init (fun M16 => m_p M16 (some q14) 18 0 (.int l1) fun M18 => m_pZ M18 (some q14) 18 1 l2 fun M19 => m_p M19 (some q14) 18 2 (.int l3) fun M20 => m_gR M20 l0 19 8 fun x21 => m_rc M20 x21 4 fun b24 => wJx4a65c_add_9ea2d g 15 (fun x22 M23 => m_gR M23 l0 19 8 fun x25 => m_rc M23 x25 4 fun b28 => wJx4a65c_size_8abf5 (fun x26 M27 => κ (x26 - 1) M27) (some b28) M23) (some b24) (some q14) M20) (some b17) M15))) (some b12) M7))) l3 1 9 M3))) (some b4) l1 M1
def wX14_part_50 (g : Nat → Nat) (κ : Int32 → mM → Prop) (l0 : Option Nat) (M : mM) : Prop :=
    m_rc M l0 19 fun b3 => wX14_refuse (fun x1 M2 => κ x1 M2) (some b3) 2 M
def wX14_part_85 (g : Nat → Nat) (κ : Int32 → mM → Prop) (l0 : Option Nat) (M : mM) : Prop :=
    m_rc M l0 19 fun b3 => wX14_refuse (fun x1 M2 => κ x1 M2) (some b3) 3 M
def wX14_part (g : Nat → Nat) (κ : Int32 → mM → Prop) (l0 : Option Nat) (l1 : Int32) (l2 : Int32) (l3 : Int32) (l4 : Int32) (M : mM) : Prop :=
    m_p M l0 19 0 (.int 0) fun M1 => m_rc M1 l0 19 fun b4 => wX14_isSleeper (fun x2 M3 => ((x2 = 0 → m_rc M3 l0 19 fun b44 => wX14_refuse (fun x42 M43 => κ x42 M43) (some b44) 1 M3) ∧ (¬ (x2 = 0) → wX14_is (fun x6 M7 => ((x6 = 0 → wX14_part_50 g κ l0 M7) ∧ (¬ (x6 = 0) → wX14_is (fun x9 M10 => ((x9 = 0 → wX14_part_50 g κ l0 M10) ∧ (¬ (x9 = 0) → wX14_is (fun x12 M13 => ((x12 = 0 → wX14_part_50 g κ l0 M13) ∧ (¬ (x12 = 0) → m_gR M13 l0 19 9 fun x15 => m_rc M13 x15 4 fun b18 => wJx4a65c_size_8abf5 (fun x16 M17 => ((x16 = 24 → wX14_part_85 g κ l0 M17) ∧ (¬ (x16 = 24) → m_gR M17 l0 19 8 fun x20 => m_rc M17 x20 4 fun b23 => wJx4a65c_get_915e3 (fun x21 M22 => m_cast M22 x21 18 (m_gI M22 x21 18 3 fun x24 => ((x24 = 0 → m_new M22 17 [.int 0, .int 0, .int 0, .int 0, .int 0, .int 0] fun q26 M27 => m_rc M27 (some q26) 17 fun b29 => wX12_init (fun M28 => m_p M28 (some q26) 17 0 (.int l2) fun M30 => m_p M30 (some q26) 17 1 (.int l3) fun M31 => m_p M31 (some q26) 17 2 (.int l4) fun M32 => m_p M32 (some q26) 17 4 (.int l1) fun M33 => m_gR M33 l0 19 9 fun x34 => m_rc M33 x34 4 fun b37 => wJx4a65c_add_9ea2d g 33 (fun x35 M36 => m_gR M36 l0 19 9 fun x38 => m_rc M36 x38 4 fun b41 => wJx4a65c_size_8abf5 (fun x39 M40 => κ (x39 - 1) M40) (some b41) M36) (some b37) (some q26) M33) (some b29) M27) ∧ (¬ (x24 = 0) → wX14_part_85 g κ l0 M22)))) (some b23) l1 M17))) (some b18) M13))) l4 0 9 M10))) l3 0 99 M7))) l2 0 7 M3))) (some b4) l1 M1
def wX14_give_21 (κ : Int32 → mM → Prop) (l0 : Option Nat) (M : mM) : Prop :=
    m_rc M l0 19 fun b3 => wX14_refuse (fun x1 M2 => κ x1 M2) (some b3) 1 M
def wX14_give_53 (κ : Int32 → mM → Prop) (l0 : Option Nat) (M : mM) : Prop :=
    m_rc M l0 19 fun b3 => wX14_refuse (fun x1 M2 => κ x1 M2) (some b3) 2 M
def wX14_give_114 (κ : Int32 → mM → Prop) (l0 : Option Nat) (M : mM) : Prop :=
    m_rc M l0 19 fun b3 => wX14_refuse (fun x1 M2 => κ x1 M2) (some b3) 2 M
def wX14_give (κ : Int32 → mM → Prop) (l0 : Option Nat) (l1 : Int32) (l2 : Int32) (M : mM) : Prop :=
    m_p M l0 19 0 (.int 0) fun M1 => m_rc M1 l0 19 fun b4 => wX14_isPart (fun x2 M3 => ((x2 = 0 → wX14_give_21 κ l0 M3) ∧ (¬ (x2 = 0) → m_rc M3 l0 19 fun b8 => wX14_isSleeper (fun x6 M7 => ((x6 = 0 → wX14_give_21 κ l0 M7) ∧ (¬ (x6 = 0) → m_gR M7 l0 19 9 fun x10 => m_rc M7 x10 4 fun b13 => wJx4a65c_get_915e3 (fun x11 M12 => m_cast M12 x11 17 (m_gI M12 x11 17 4 fun x14 => ((100 ≤ x14 → wX14_give_53 κ l0 M12) ∧ (¬ (100 ≤ x14) → ((x14 = l2 → wX14_give_53 κ l0 M12) ∧ (¬ (x14 = l2) → m_gR M12 l0 19 8 fun x17 => m_rc M12 x17 4 fun b20 => wJx4a65c_get_915e3 (fun x18 M19 => m_cast M19 x18 18 (m_gR M19 l0 19 8 fun x21 => m_rc M19 x21 4 fun b24 => wJx4a65c_get_915e3 (fun x22 M23 => m_cast M23 x22 18 (m_gI M23 x18 18 0 fun x25 => m_gI M23 x22 18 0 fun x26 => ((x25 = x26 → m_gI M23 x18 18 3 fun x28 => ((x28 = 0 → m_gI M23 x22 18 3 fun x30 => ((x30 = 0 → m_gR M23 l0 19 9 fun x32 => m_rc M23 x32 4 fun b35 => wJx4a65c_get_915e3 (fun x33 M34 => m_cast M34 x33 17 (m_p M34 x33 17 4 (.int l2) fun M36 => κ x14 M36)) (some b35) l1 M23) ∧ (¬ (x30 = 0) → wX14_give_114 κ l0 M23))) ∧ (¬ (x28 = 0) → wX14_give_114 κ l0 M23))) ∧ (¬ (x25 = x26) → wX14_give_114 κ l0 M23)))) (some b24) l2 M19)) (some b20) x14 M12)))))) (some b13) l1 M7))) (some b8) l2 M3))) (some b4) l1 M1
def wX14_right (κ : Int32 → mM → Prop) (l0 : Int32) (l1 : Int32) (l2 : Int32) (M : mM) : Prop :=
    κ (m_rem (((13 * l0) + (29 * l1)) + (7 * l2)) 97) M
def wX14_sing_21 (κ : Int32 → mM → Prop) (l0 : Option Nat) (M : mM) : Prop :=
    m_rc M l0 19 fun b3 => wX14_refuse (fun x1 M2 => κ x1 M2) (some b3) 1 M
def wX14_sing_51 (κ : Int32 → mM → Prop) (l0 : Option Nat) (M : mM) : Prop :=
    m_rc M l0 19 fun b3 => wX14_refuse (fun x1 M2 => κ x1 M2) (some b3) 2 M
def wX14_sing (κ : Int32 → mM → Prop) (l0 : Option Nat) (l1 : Int32) (l2 : Int32) (l3 : Int32) (l4 : Int32) (M : mM) : Prop :=
    m_p M l0 19 0 (.int 0) fun M1 => m_rc M1 l0 19 fun b4 => wX14_isSleeper (fun x2 M3 => ((x2 = 0 → wX14_sing_21 κ l0 M3) ∧ (¬ (x2 = 0) → m_rc M3 l0 19 fun b8 => wX14_isGate (fun x6 M7 => ((x6 = 0 → wX14_sing_21 κ l0 M7) ∧ (¬ (x6 = 0) → m_gI M7 l0 19 1 fun x10 => wX14_is (fun x11 M12 => ((x11 = 0 → wX14_sing_51 κ l0 M12) ∧ (¬ (x11 = 0) → wX14_is (fun x14 M15 => ((x14 = 0 → wX14_sing_51 κ l0 M15) ∧ (¬ (x14 = 0) → m_gR M15 l0 19 8 fun x17 => m_rc M15 x17 4 fun b20 => wJx4a65c_get_915e3 (fun x18 M19 => m_cast M19 x18 18 (m_p M19 x18 18 6 (.int l2) fun M21 => m_p M21 x18 18 7 (.int l3) fun M22 => m_p M22 x18 18 8 (.int l4) fun M23 => wX14_right (fun x24 M25 => κ x24 M25) l1 l2 l3 M23)) (some b20) l1 M15))) l4 0 96 M12))) l3 x10 99 M7))) (some b8) l2 M3))) (some b4) l1 M1
def wX14_revoke_28 (κ : Int32 → mM → Prop) (l0 : Option Nat) (l1 : Int32) (l2 : Int32) (s0 : Int32) (s1 : Option Nat) (M : mM) : Prop :=
    m_p M s1 19 0 (.int s0) fun M1 => m_gI M1 l0 19 0 fun x2 => ((x2 ≤ 0 → m_gR M1 l0 19 7 fun x4 => m_rc M1 x4 4 fun b7 => wJx4a65c_get_915e3 (fun x5 M6 => m_cast M6 x5 15 (m_gR M6 x5 15 7 fun x8 => m_ldI M6 x8 l2 1 fun x9 => m_gR M6 l0 19 7 fun x10 => m_rc M6 x10 4 fun b13 => wJx4a65c_get_915e3 (fun x11 M12 => m_cast M12 x11 15 (m_gR M12 x11 15 7 fun x14 => m_stZ M12 x14 l2 1 fun M15 => ((x9 = 0 → κ 1 M15) ∧ (¬ (x9 = 0) → κ 0 M15)))) (some b13) l1 M6)) (some b7) l1 M1) ∧ (¬ (x2 ≤ 0) → κ 0 M1))
def wX14_revoke (κ : Int32 → mM → Prop) (l0 : Option Nat) (l1 : Int32) (l2 : Int32) (M : mM) : Prop :=
    m_rc M l0 19 fun b3 => wX14_isGate (fun x1 M2 => ((x1 = 0 → wX14_revoke_28 κ l0 l1 l2 1 l0 M2) ∧ (¬ (x1 = 0) → wX14_is (fun x5 M6 => ((x5 = 0 → wX14_revoke_28 κ l0 l1 l2 2 l0 M6) ∧ (¬ (x5 = 0) → wX14_revoke_28 κ l0 l1 l2 0 l0 M6))) l2 0 96 M2))) (some b3) l1 M
def wX14_head_41 (κ : Int32 → mM → Prop) (R4 : Option Nat → Int32 → Int32 → Int32 → mM → Prop) (l0 : Option Nat) (l1 : Int32) (l3 : Int32) (s0 : Int32) (s1 : Int32) (M : mM) : Prop :=
    R4 l0 l1 (s1 ||| s0) (l3 + 1) M
def wX14_head_4 (κ : Int32 → mM → Prop) : Nat → Option Nat → Int32 → Int32 → Int32 → mM → Prop
  | 0 => fun _ _ _ _ _ => False
  | f + 1 => fun (l0 : Option Nat) (l1 : Int32) (l2 : Int32) (l3 : Int32) (M : mM) =>
    m_gR M l0 19 9 fun x1 => m_rc M x1 4 fun b4 => wJx4a65c_size_8abf5 (fun x2 M3 => ((x2 ≤ l3 → κ l2 M3) ∧ (¬ (x2 ≤ l3) → m_gR M3 l0 19 9 fun x6 => m_rc M3 x6 4 fun b9 => wJx4a65c_get_915e3 (fun x7 M8 => m_cast M8 x7 17 (m_gI M8 x7 17 4 fun x10 => ((x10 = l1 → wX14_head_41 κ (wX14_head_4 κ f) l0 l1 l3 (m_shl 1 l3) l2 M8) ∧ (¬ (x10 = l1) → wX14_head_41 κ (wX14_head_4 κ f) l0 l1 l3 0 l2 M8)))) (some b9) l3 M3))) (some b4) M
def wX14_head (κ : Int32 → mM → Prop) (l0 : Option Nat) (l1 : Int32) (M : mM) : Prop :=
    ∃ u : Nat, wX14_head_4 κ u l0 l1 0 0 M
def wX14_join_21 (g : Nat → Nat) (κ : Int32 → mM → Prop) (l0 : Option Nat) (M : mM) : Prop :=
    m_rc M l0 19 fun b3 => wX14_refuse (fun x1 M2 => κ x1 M2) (some b3) 1 M
def wX14_join_43 (g : Nat → Nat) (κ : Int32 → mM → Prop) (l0 : Option Nat) (M : mM) : Prop :=
    m_rc M l0 19 fun b3 => wX14_refuse (fun x1 M2 => κ x1 M2) (some b3) 2 M
def wX14_join_96 (g : Nat → Nat) (κ : Int32 → mM → Prop) (l0 : Option Nat) (M : mM) : Prop :=
    m_rc M l0 19 fun b3 => wX14_refuse (fun x1 M2 => κ x1 M2) (some b3) 3 M
def wX14_join_165 (g : Nat → Nat) (κ : Int32 → mM → Prop) (l1 : Int32) (l2 : Int32) (l3 : Int32) (l4 : Option Nat) (l5 : Option Nat) (l6 : Int32) (M : mM) : Prop :=
    m_gR M l5 15 6 fun x1 => wJ6_valueOf_2dffe g (fun x2 M3 => m_rc M3 x1 4 fun b5 => wJx4a65c_add_7a177 g 15 (fun M4 => m_p M4 l4 18 3 (.int 1) fun M6 => m_p M6 l4 18 4 (.int l2) fun M7 => m_p M7 l4 18 5 (.int l3) fun M8 => κ l6 M8) (some b5) l6 x2 M3) l1 M
def wX14_join_112 (g : Nat → Nat) (κ : Int32 → mM → Prop) : Nat → Option Nat → Int32 → Int32 → Int32 → Option Nat → Option Nat → Int32 → mM → Prop
  | 0 => fun _ _ _ _ _ _ _ _ => False
  | f + 1 => fun (l0 : Option Nat) (l1 : Int32) (l2 : Int32) (l3 : Int32) (l4 : Option Nat) (l5 : Option Nat) (l6 : Int32) (M : mM) =>
    m_gI M l4 18 1 fun x1 => ((x1 = 0 → wX14_join_165 g κ l1 l2 l3 l4 l5 l6 M) ∧ (¬ (x1 = 0) → ((l6 ≤ 0 → wX14_join_165 g κ l1 l2 l3 l4 l5 l6 M) ∧ (¬ (l6 ≤ 0) → m_gR M l0 19 8 fun x4 => m_gR M l5 15 6 fun x5 => m_rc M x5 4 fun b8 => wJx4a65c_get_915e3 (fun x6 M7 => m_cast M7 x6 2 (m_rc M7 x6 2 fun b11 => wJ6_intValue_8abf5 (fun x9 M10 => m_rc M10 x4 4 fun b14 => wJx4a65c_get_915e3 (fun x12 M13 => m_cast M13 x12 18 (m_gI M13 x12 18 1 fun x15 => ((x15 = 0 → (wX14_join_112 g κ f) l0 l1 l2 l3 l4 l5 (l6 + (-1)) M13) ∧ (¬ (x15 = 0) → wX14_join_165 g κ l1 l2 l3 l4 l5 l6 M13)))) (some b14) x9 M10) (some b11) M7)) (some b8) (l6 - 1) M))))
def wX14_join (g : Nat → Nat) (κ : Int32 → mM → Prop) (l0 : Option Nat) (l1 : Int32) (l2 : Int32) (l3 : Int32) (M : mM) : Prop :=
    m_p M l0 19 0 (.int 0) fun M1 => m_rc M1 l0 19 fun b4 => wX14_isSleeper (fun x2 M3 => ((x2 = 0 → wX14_join_21 g κ l0 M3) ∧ (¬ (x2 = 0) → m_rc M3 l0 19 fun b8 => wX14_isGate (fun x6 M7 => ((x6 = 0 → wX14_join_21 g κ l0 M7) ∧ (¬ (x6 = 0) → ((l3 < 0 → wX14_join_43 g κ l0 M7) ∧ (¬ (l3 < 0) → m_rc M7 l0 19 fun b13 => wX14_head (fun x11 M12 => (((l3 &&& (x11 ^^^ (-1))) = 0 → m_gR M12 l0 19 8 fun x15 => m_rc M12 x15 4 fun b18 => wJx4a65c_get_915e3 (fun x16 M17 => m_cast M17 x16 18 (m_gR M17 l0 19 7 fun x19 => m_rc M17 x19 4 fun b22 => wJx4a65c_get_915e3 (fun x20 M21 => m_cast M21 x20 15 (m_gI M21 x16 18 3 fun x23 => ((x23 = 0 → m_gI M21 x16 18 0 fun x25 => m_rc M21 x20 15 fun b28 => wX10_has (fun x26 M27 => ((x26 = 0 → wX14_join_96 g κ l0 M27) ∧ (¬ (x26 = 0) → m_gR M27 x20 15 6 fun x30 => m_rc M27 x30 4 fun b33 => wJx4a65c_size_8abf5 (fun x31 M32 => ∃ u : Nat, wX14_join_112 g κ u l0 l1 l2 l3 x16 x20 x31 M32) (some b33) M27))) (some b28) x25 M21) ∧ (¬ (x23 = 0) → wX14_join_96 g κ l0 M21)))) (some b22) l2 M17)) (some b18) l1 M12) ∧ (¬ ((l3 &&& (x11 ^^^ (-1))) = 0) → wX14_join_43 g κ l0 M12))) (some b13) l1 M7))))) (some b8) l2 M3))) (some b4) l1 M1
def wX14_stepOut_110 (κ : mM → Prop) (R56 : Option Nat → Int32 → Int32 → Int32 → mM → Prop) (l0 : Option Nat) (l1 : Int32) (l2 : Int32) (l5 : Int32) (M : mM) : Prop :=
    R56 l0 l1 l2 (l5 + 1) M
def wX14_stepOut_56 (κ : mM → Prop) : Nat → Option Nat → Int32 → Int32 → Int32 → mM → Prop
  | 0 => fun _ _ _ _ _ => False
  | f + 1 => fun (l0 : Option Nat) (l1 : Int32) (l2 : Int32) (l5 : Int32) (M : mM) =>
    m_gR M l0 19 9 fun x1 => m_rc M x1 4 fun b4 => wJx4a65c_size_8abf5 (fun x2 M3 => ((x2 ≤ l5 → κ M3) ∧ (¬ (x2 ≤ l5) → ((l2 = 2 → m_gR M3 l0 19 9 fun x7 => m_rc M3 x7 4 fun b10 => wJx4a65c_get_915e3 (fun x8 M9 => m_cast M9 x8 17 (m_gI M9 x8 17 4 fun x11 => ((x11 = l1 → m_gR M9 l0 19 9 fun x13 => m_rc M9 x13 4 fun b16 => wJx4a65c_get_915e3 (fun x14 M15 => m_cast M15 x14 17 (m_p M15 x14 17 4 (.int 999) fun M17 => wX14_stepOut_110 κ (wX14_stepOut_56 κ f) l0 l1 l2 l5 M17)) (some b16) l5 M9) ∧ (¬ (x11 = l1) → wX14_stepOut_110 κ (wX14_stepOut_56 κ f) l0 l1 l2 l5 M9)))) (some b10) l5 M3) ∧ (¬ (l2 = 2) → κ M3))))) (some b4) M
def wX14_stepOut (κ : mM → Prop) (l0 : Option Nat) (l1 : Int32) (l2 : Int32) (M : mM) : Prop :=
    m_gR M l0 19 8 fun x1 => m_rc M x1 4 fun b4 => wJx4a65c_get_915e3 (fun x2 M3 => m_cast M3 x2 18 (m_gR M3 l0 19 7 fun x5 => m_gI M3 x2 18 4 fun x6 => m_rc M3 x5 4 fun b9 => wJx4a65c_get_915e3 (fun x7 M8 => m_cast M8 x7 15 (m_gR M8 x7 15 6 fun x10 => m_rc M8 x7 15 fun b13 => wX10_place (fun x11 M12 => m_rc M12 x10 4 fun b16 => wJx4a65c_remove_915e3 (fun x14 M15 => m_p M15 x2 18 3 (.int l2) fun M17 => m_p M17 x2 18 4 (.int (-1)) fun M18 => ∃ u : Nat, wX14_stepOut_56 κ u l0 l1 l2 0 M18) (some b16) x11 M12) (some b13) l1 M8)) (some b9) x6 M3)) (some b4) l1 M
def wX14_leave (κ : Int32 → mM → Prop) (l0 : Option Nat) (l1 : Int32) (M : mM) : Prop :=
    m_p M l0 19 0 (.int 0) fun M1 => m_rc M1 l0 19 fun b4 => wX14_isSleeper (fun x2 M3 => ((x2 = 0 → m_rc M3 l0 19 fun b27 => wX14_refuse (fun x25 M26 => κ x25 M26) (some b27) 1 M3) ∧ (¬ (x2 = 0) → m_gR M3 l0 19 8 fun x6 => m_rc M3 x6 4 fun b9 => wJx4a65c_get_915e3 (fun x7 M8 => m_cast M8 x7 18 (m_gI M8 x7 18 3 fun x10 => ((x10 = 1 → m_gR M8 l0 19 7 fun x12 => m_gI M8 x7 18 4 fun x13 => m_rc M8 x12 4 fun b16 => wJx4a65c_get_915e3 (fun x14 M15 => m_cast M15 x14 15 (m_rc M15 x14 15 fun b19 => wX10_place (fun x17 M18 => m_rc M18 l0 19 fun b21 => wX14_stepOut (fun M20 => κ x17 M20) (some b21) l1 0 M18) (some b19) l1 M15)) (some b16) x13 M8) ∧ (¬ (x10 = 1) → m_rc M8 l0 19 fun b24 => wX14_refuse (fun x22 M23 => κ x22 M23) (some b24) 2 M8)))) (some b9) l1 M3))) (some b4) l1 M1
def wX14_isGoodNow (κ : Int32 → mM → Prop) (l0 : Option Nat) (l1 : Int32) (l2 : Int32) (M : mM) : Prop :=
    m_gR M l0 19 8 fun x1 => m_rc M x1 4 fun b4 => wJx4a65c_get_915e3 (fun x2 M3 => m_cast M3 x2 18 (m_gI M3 x2 18 8 fun x5 => ((x5 = (-1) → κ 0 M3) ∧ (¬ (x5 = (-1)) → m_gI M3 x2 18 6 fun x7 => ((x7 = l2 → m_gI M3 x2 18 7 fun x9 => m_gI M3 l0 19 1 fun x10 => ((x9 = x10 → m_gR M3 l0 19 7 fun x12 => m_rc M3 x12 4 fun b15 => wJx4a65c_get_915e3 (fun x13 M14 => m_cast M14 x13 15 (m_gI M14 x2 18 8 fun x16 => m_gI M14 l0 19 1 fun x17 => wX14_right (fun x18 M19 => m_rc M19 x13 15 fun b22 => wX10_dozes (fun x20 M21 => ((x20 = 0 → (((m_abs (x16 - x18)) = 0 → m_gR M21 x13 15 7 fun x25 => m_gI M21 x2 18 8 fun x26 => m_ldI M21 x25 x26 1 fun x27 => ((x27 = 0 → κ 1 M21) ∧ (¬ (x27 = 0) → κ 0 M21))) ∧ (¬ ((m_abs (x16 - x18)) = 0) → κ 0 M21))) ∧ (¬ (x20 = 0) → ((1 < (m_abs (x16 - x18)) → κ 0 M21) ∧ (¬ (1 < (m_abs (x16 - x18))) → κ 1 M21))))) (some b22) M19) l1 l2 x17 M14)) (some b15) l2 M3) ∧ (¬ (x9 = x10) → κ 0 M3))) ∧ (¬ (x7 = l2) → κ 0 M3)))))) (some b4) l1 M
def wX14_comeIn_193 (κ : Int32 → mM → Prop) (R34 : Option Nat → Int32 → Int32 → Option Nat → Option Nat → Int32 → Int32 → Int32 → mM → Prop) (l0 : Option Nat) (l1 : Int32) (l3 : Int32) (l4 : Option Nat) (l5 : Option Nat) (l6 : Int32) (l7 : Int32) (l8 : Int32) (M : mM) : Prop :=
    R34 l0 l1 l3 l4 l5 l6 l7 (l8 + 1) M
def wX14_comeIn_190 (κ : Int32 → mM → Prop) (R34 : Option Nat → Int32 → Int32 → Option Nat → Option Nat → Int32 → Int32 → Int32 → mM → Prop) (l0 : Option Nat) (l1 : Int32) (l3 : Int32) (l4 : Option Nat) (l5 : Option Nat) (l6 : Int32) (l7 : Int32) (l8 : Int32) (s0 : Int32) (s1 : Option Nat) (M : mM) : Prop :=
    m_p M s1 17 3 (.int s0) fun M1 => wX14_comeIn_193 κ R34 l0 l1 l3 l4 l5 l6 l7 l8 M1
def wX14_comeIn_174 (κ : Int32 → mM → Prop) (R34 : Option Nat → Int32 → Int32 → Option Nat → Option Nat → Int32 → Int32 → Int32 → mM → Prop) (l0 : Option Nat) (l1 : Int32) (l3 : Int32) (l4 : Option Nat) (l5 : Option Nat) (l6 : Int32) (l7 : Int32) (l8 : Int32) (l9 : Option Nat) (l10 : Int32) (M : mM) : Prop :=
    ((l3 = 0 → wX14_comeIn_193 κ R34 l0 l1 l3 l4 l5 l6 l7 l8 M) ∧ (¬ (l3 = 0) → ((l10 = 0 → wX14_comeIn_190 κ R34 l0 l1 l3 l4 l5 l6 l7 l8 1 l9 M) ∧ (¬ (l10 = 0) → wX14_comeIn_190 κ R34 l0 l1 l3 l4 l5 l6 l7 l8 5 l9 M))))
def wX14_comeIn_149 (κ : Int32 → mM → Prop) (R34 : Option Nat → Int32 → Int32 → Option Nat → Option Nat → Int32 → Int32 → Int32 → mM → Prop) (l0 : Option Nat) (l1 : Int32) (l3 : Int32) (l4 : Option Nat) (l5 : Option Nat) (l6 : Int32) (l8 : Int32) (l9 : Option Nat) (l10 : Int32) (s0 : Int32) (s1 : Int32) (M : mM) : Prop :=
    ((l3 = 0 → wX14_comeIn_174 κ R34 l0 l1 l3 l4 l5 l6 (s1 + s0) l8 l9 l10 M) ∧ (¬ (l3 = 0) → ((l10 = 0 → wX14_comeIn_174 κ R34 l0 l1 l3 l4 l5 l6 (s1 + s0) l8 l9 l10 M) ∧ (¬ (l10 = 0) → m_gI M l4 18 0 fun x3 => m_p M l9 17 4 (.int (100 + x3)) fun M4 => wX14_comeIn_174 κ R34 l0 l1 l3 l4 l5 l6 (s1 + s0) l8 l9 l10 M4))))
def wX14_comeIn_130 (κ : Int32 → mM → Prop) (R34 : Option Nat → Int32 → Int32 → Option Nat → Option Nat → Int32 → Int32 → Int32 → mM → Prop) (l0 : Option Nat) (l1 : Int32) (l3 : Int32) (l4 : Option Nat) (l5 : Option Nat) (l7 : Int32) (l8 : Int32) (l9 : Option Nat) (l10 : Int32) (s0 : Int32) (s1 : Int32) (M : mM) : Prop :=
    ((l10 = 0 → m_gI M l9 17 1 fun x2 => wX14_comeIn_149 κ R34 l0 l1 l3 l4 l5 (s1 + s0) l8 l9 l10 x2 l7 M) ∧ (¬ (l10 = 0) → wX14_comeIn_149 κ R34 l0 l1 l3 l4 l5 (s1 + s0) l8 l9 l10 0 l7 M))
def wX14_comeIn_129 (κ : Int32 → mM → Prop) (R34 : Option Nat → Int32 → Int32 → Option Nat → Option Nat → Int32 → Int32 → Int32 → mM → Prop) (l0 : Option Nat) (l1 : Int32) (l3 : Int32) (l4 : Option Nat) (l5 : Option Nat) (l7 : Int32) (l8 : Int32) (l9 : Option Nat) (l10 : Int32) (s0 : Int32) (M : mM) : Prop :=
    wX14_comeIn_130 κ R34 l0 l1 l3 l4 l5 l7 l8 l9 l10 0 s0 M
def wX14_comeIn_108 (κ : Int32 → mM → Prop) (R34 : Option Nat → Int32 → Int32 → Option Nat → Option Nat → Int32 → Int32 → Int32 → mM → Prop) (l0 : Option Nat) (l1 : Int32) (l3 : Int32) (l4 : Option Nat) (l5 : Option Nat) (l6 : Int32) (l7 : Int32) (l8 : Int32) (l9 : Option Nat) (s0 : Int32) (M : mM) : Prop :=
    m_rc M l9 17 fun b3 => wX12_isNightmare (fun x1 M2 => ((x1 = 0 → wX14_comeIn_129 κ R34 l0 l1 l3 l4 l5 l7 l8 l9 s0 l6 M2) ∧ (¬ (x1 = 0) → ((s0 = 0 → wX14_comeIn_130 κ R34 l0 l1 l3 l4 l5 l7 l8 l9 s0 1 l6 M2) ∧ (¬ (s0 = 0) → wX14_comeIn_129 κ R34 l0 l1 l3 l4 l5 l7 l8 l9 s0 l6 M2))))) (some b3) M
def wX14_comeIn_107 (κ : Int32 → mM → Prop) (R34 : Option Nat → Int32 → Int32 → Option Nat → Option Nat → Int32 → Int32 → Int32 → mM → Prop) (l0 : Option Nat) (l1 : Int32) (l3 : Int32) (l4 : Option Nat) (l5 : Option Nat) (l6 : Int32) (l7 : Int32) (l8 : Int32) (l9 : Option Nat) (M : mM) : Prop :=
    wX14_comeIn_108 κ R34 l0 l1 l3 l4 l5 l6 l7 l8 l9 0 M
def wX14_comeIn_34 (κ : Int32 → mM → Prop) : Nat → Option Nat → Int32 → Int32 → Option Nat → Option Nat → Int32 → Int32 → Int32 → mM → Prop
  | 0 => fun _ _ _ _ _ _ _ _ _ => False
  | f + 1 => fun (l0 : Option Nat) (l1 : Int32) (l3 : Int32) (l4 : Option Nat) (l5 : Option Nat) (l6 : Int32) (l7 : Int32) (l8 : Int32) (M : mM) =>
    m_gR M l0 19 9 fun x1 => m_rc M x1 4 fun b4 => wJx4a65c_size_8abf5 (fun x2 M3 => ((x2 ≤ l8 → ((l3 = 0 → κ l7 M3) ∧ (¬ (l3 = 0) → m_p M3 l5 16 3 (.int l6) fun M7 => κ l7 M7))) ∧ (¬ (x2 ≤ l8) → m_gR M3 l0 19 9 fun x8 => m_rc M3 x8 4 fun b11 => wJx4a65c_get_915e3 (fun x9 M10 => m_cast M10 x9 17 (m_gI M10 x9 17 4 fun x12 => ((x12 = l1 → m_gI M10 l4 18 5 fun x14 => ((((m_shr x14 l8) &&& 1) = 0 → wX14_comeIn_193 κ (wX14_comeIn_34 κ f) l0 l1 l3 l4 l5 l6 l7 l8 M10) ∧ (¬ (((m_shr x14 l8) &&& 1) = 0) → m_rc M10 x9 17 fun b18 => wX12_isNightmare (fun x16 M17 => ((x16 = 0 → wX14_comeIn_107 κ (wX14_comeIn_34 κ f) l0 l1 l3 l4 l5 l6 l7 l8 x9 M17) ∧ (¬ (x16 = 0) → m_gI M17 l5 16 2 fun x20 => ((l6 < x20 → wX14_comeIn_107 κ (wX14_comeIn_34 κ f) l0 l1 l3 l4 l5 l6 l7 l8 x9 M17) ∧ (¬ (l6 < x20) → wX14_comeIn_108 κ (wX14_comeIn_34 κ f) l0 l1 l3 l4 l5 l6 l7 l8 x9 1 M17))))) (some b18) M10))) ∧ (¬ (x12 = l1) → wX14_comeIn_193 κ (wX14_comeIn_34 κ f) l0 l1 l3 l4 l5 l6 l7 l8 M10)))) (some b11) l8 M3))) (some b4) M
def wX14_comeIn (κ : Int32 → mM → Prop) (l0 : Option Nat) (l1 : Int32) (l2 : Int32) (l3 : Int32) (M : mM) : Prop :=
    m_gR M l0 19 8 fun x1 => m_rc M x1 4 fun b4 => wJx4a65c_get_915e3 (fun x2 M3 => m_cast M3 x2 18 (m_gR M3 l0 19 6 fun x5 => m_ldR M3 x5 l2 4 fun x6 => m_gI M3 x6 16 3 fun x7 => ∃ u : Nat, wX14_comeIn_34 κ u l0 l1 l3 x2 x6 x7 0 0 M3)) (some b4) l1 M
def wX14_duty (κ : Int32 → mM → Prop) (l0 : Option Nat) (l1 : Int32) (l2 : Option Nat) (M : mM) : Prop :=
    m_gI M l2 16 1 fun x1 => m_gI M l2 16 0 fun x2 => κ (((m_max 0 (l1 - x1)) * x2) / 100) M
def wX14_hide (g : Nat → Nat) (κ : mM → Prop) (l0 : Option Nat) (l1 : Int32) (l2 : Int32) (M : mM) : Prop :=
    m_gR M l0 19 10 fun x1 => m_rc M x1 4 fun b4 => wJx4a65c_size_8abf5 (fun x2 M3 => ((x2 = 120 → κ M3) ∧ (¬ (x2 = 120) → m_gR M3 l0 19 10 fun x6 => wJ6_valueOf_2dffe g (fun x7 M8 => m_rc M8 x6 4 fun b11 => wJx4a65c_add_9ea2d g 163 (fun x9 M10 => m_gR M10 l0 19 10 fun x12 => wJ6_valueOf_2dffe g (fun x13 M14 => m_rc M14 x12 4 fun b17 => wJx4a65c_add_9ea2d g 163 (fun x15 M16 => m_gR M16 l0 19 10 fun x18 => m_gI M16 l0 19 1 fun x19 => wJ6_valueOf_2dffe g (fun x20 M21 => m_rc M21 x18 4 fun b24 => wJx4a65c_add_9ea2d g 163 (fun x22 M23 => κ M23) (some b24) x20 M21) x19 M16) (some b17) x13 M14) l2 M10) (some b11) x7 M8) l1 M3))) (some b4) M
def wX14_comeThrough_326 (g : Nat → Nat) (κ : Int32 → mM → Prop) (R257 : Nat → Nat → Option Nat → Int32 → Option Nat → Int32 → Int32 → Int32 → Int32 → mM → Prop) (k9 n9 : Nat) (l0 : Option Nat) (l1 : Int32) (l3 : Option Nat) (l4 : Int32) (l6 : Int32) (l7 : Int32) (l8 : Int32) (M : mM) : Prop :=
    ((k9 ≤ 72 ∧ n9 ≤ 11736) ∧ R257 k9 n9 l0 l1 l3 l4 l6 l7 (l8 + 1) M)
def wX14_comeThrough_257 (g : Nat → Nat) (κ : Int32 → mM → Prop) : Nat → Nat → Nat → Option Nat → Int32 → Option Nat → Int32 → Int32 → Int32 → Int32 → mM → Prop
  | 0 => fun _ _ _ _ _ _ _ _ _ _ => False
  | f + 1 => fun (k9 n9 : Nat) (l0 : Option Nat) (l1 : Int32) (l3 : Option Nat) (l4 : Int32) (l6 : Int32) (l7 : Int32) (l8 : Int32) (M : mM) =>
    ((k9 ≤ 72 ∧ n9 ≤ 11736) ∧ m_gR M l0 19 9 fun x1 => m_rc M x1 4 fun b4 => wJx4a65c_size_8abf5 (fun x2 M3 => ((x2 ≤ l8 → m_p M3 l3 18 0 (.int l4) fun M6 => m_p M6 l3 18 8 (.int (-1)) fun M7 => ((k9 ≤ 72 ∧ n9 ≤ 11736) ∧ κ l6 M7)) ∧ (¬ (x2 ≤ l8) → m_gR M3 l0 19 9 fun x8 => m_rc M3 x8 4 fun b11 => wJx4a65c_get_915e3 (fun x9 M10 => m_cast M10 x9 17 (m_gI M10 x9 17 4 fun x12 => ((x12 = l1 → m_gI M10 l3 18 5 fun x14 => ((((m_shr x14 l8) &&& 1) = 1 → m_gR M10 l0 19 6 fun x16 => m_ldR M10 x16 l4 4 fun x17 => m_gI M10 x17 16 1 fun x18 => ((x18 < l7 → wX14_comeThrough_326 g κ (wX14_comeThrough_257 g κ f) k9 n9 l0 l1 l3 l4 l6 l7 l8 M10) ∧ (¬ (x18 < l7) → m_p M10 x9 17 3 (.int 2) fun M20 => wX14_comeThrough_326 g κ (wX14_comeThrough_257 g κ f) k9 n9 l0 l1 l3 l4 l6 l7 l8 M20))) ∧ (¬ (((m_shr x14 l8) &&& 1) = 1) → wX14_comeThrough_326 g κ (wX14_comeThrough_257 g κ f) k9 n9 l0 l1 l3 l4 l6 l7 l8 M10))) ∧ (¬ (x12 = l1) → wX14_comeThrough_326 g κ (wX14_comeThrough_257 g κ f) k9 n9 l0 l1 l3 l4 l6 l7 l8 M10)))) (some b11) l8 M3))) (some b4) M)
def wX14_comeThrough_210 (g : Nat → Nat) (κ : Int32 → mM → Prop) (R87 : Nat → Nat → Option Nat → Int32 → Option Nat → Int32 → Int32 → Int32 → Int32 → mM → Prop) (k9 n9 : Nat) (l0 : Option Nat) (l1 : Int32) (l3 : Option Nat) (l4 : Int32) (l5 : Int32) (l6 : Int32) (l7 : Int32) (M : mM) : Prop :=
    ((k9 ≤ 72 ∧ n9 ≤ 11736) ∧ R87 k9 n9 l0 l1 l3 l4 l5 l6 (l7 + 1) M)
def wX14_comeThrough_160 (g : Nat → Nat) (κ : Int32 → mM → Prop) (R87 : Nat → Nat → Option Nat → Int32 → Option Nat → Int32 → Int32 → Int32 → Int32 → mM → Prop) (k9 n9 : Nat) (l0 : Option Nat) (l1 : Int32) (l3 : Option Nat) (l4 : Int32) (l5 : Int32) (l6 : Int32) (l7 : Int32) (l8 : Option Nat) (s0 : Int32) (s1 : Option Nat) (M : mM) : Prop :=
    ((k9 ≤ 72 ∧ n9 ≤ 11736) ∧ m_p M s1 17 3 (.int s0) fun M1 => m_p M1 l8 17 5 (.int l1) fun M2 => ((l5 = 0 → wX14_comeThrough_210 g κ R87 k9 n9 l0 l1 l3 l4 l5 l6 l7 M2) ∧ (¬ (l5 = 0) → m_p M2 l8 17 4 (.int (100 + l4)) fun M4 => m_gR M4 l0 19 6 fun x5 => m_ldR M4 x5 l4 4 fun x6 => m_gI M4 x6 16 5 fun x7 => m_gI M4 l8 17 1 fun x8 => m_p M4 x6 16 5 (.int (x7 + x8)) fun M9 => wX14_comeThrough_210 g κ R87 k9 n9 l0 l1 l3 l4 l5 (l6 + 1) l7 M9)))
def wX14_comeThrough_87 (g : Nat → Nat) (κ : Int32 → mM → Prop) : Nat → Nat → Nat → Option Nat → Int32 → Option Nat → Int32 → Int32 → Int32 → Int32 → mM → Prop
  | 0 => fun _ _ _ _ _ _ _ _ _ _ => False
  | f + 1 => fun (k9 n9 : Nat) (l0 : Option Nat) (l1 : Int32) (l3 : Option Nat) (l4 : Int32) (l5 : Int32) (l6 : Int32) (l7 : Int32) (M : mM) =>
    ((k9 ≤ 72 ∧ n9 ≤ 11736) ∧ m_gR M l0 19 9 fun x1 => m_rc M x1 4 fun b4 => wJx4a65c_size_8abf5 (fun x2 M3 => ((x2 ≤ l7 → m_rc M3 l0 19 fun b8 => wX14_comeIn (fun x6 M7 => m_gR M7 l0 19 6 fun x9 => m_ldR M7 x9 l4 4 fun x10 => m_gI M7 x10 16 4 fun x11 => m_gR M7 l0 19 6 fun x12 => m_ldR M7 x12 l4 4 fun x13 => m_rc M7 l0 19 fun b16 => wX14_duty (fun x14 M15 => m_p M15 x10 16 4 (.int (x11 + x14)) fun M17 => ∃ u : Nat, wX14_comeThrough_257 g κ u k9 n9 l0 l1 l3 l4 l6 x6 0 M17) (some b16) x6 x13 M7) (some b8) l1 l4 1 M3) ∧ (¬ (x2 ≤ l7) → m_gR M3 l0 19 9 fun x18 => m_rc M3 x18 4 fun b21 => wJx4a65c_get_915e3 (fun x19 M20 => m_cast M20 x19 17 (m_gI M20 x19 17 4 fun x22 => ((x22 = l1 → m_gI M20 l3 18 5 fun x24 => ((((m_shr x24 l7) &&& 1) = 1 → wX14_comeThrough_210 g κ (wX14_comeThrough_87 g κ f) k9 n9 l0 l1 l3 l4 l5 l6 l7 M20) ∧ (¬ (((m_shr x24 l7) &&& 1) = 1) → m_gI M20 x19 17 0 fun x26 => ((k9 + 3 ≤ 72 ∧ n9 + 489 ≤ 11736) ∧ m_rc M20 l0 19 fun b28 => wX14_hide g (fun M27 => ((l5 = 0 → wX14_comeThrough_160 g κ (wX14_comeThrough_87 g κ f) (k9 + 3) (n9 + 489) l0 l1 l3 l4 l5 l6 l7 x19 4 x19 M27) ∧ (¬ (l5 = 0) → wX14_comeThrough_160 g κ (wX14_comeThrough_87 g κ f) (k9 + 3) (n9 + 489) l0 l1 l3 l4 l5 l6 l7 x19 3 x19 M27))) (some b28) l1 x26 M20)))) ∧ (¬ (x22 = l1) → wX14_comeThrough_210 g κ (wX14_comeThrough_87 g κ f) k9 n9 l0 l1 l3 l4 l5 l6 l7 M20)))) (some b21) l7 M3))) (some b4) M)
def wX14_comeThrough_81 (g : Nat → Nat) (κ : Int32 → mM → Prop) (k9 n9 : Nat) (l0 : Option Nat) (l1 : Int32) (l3 : Option Nat) (l4 : Int32) (l5 : Int32) (M : mM) : Prop :=
    ((k9 ≤ 72 ∧ n9 ≤ 11736) ∧ ∃ u : Nat, wX14_comeThrough_87 g κ u k9 n9 l0 l1 l3 l4 l5 0 0 M)
def wX14_comeThrough_51 (g : Nat → Nat) (κ : Int32 → mM → Prop) (k9 n9 : Nat) (l0 : Option Nat) (l1 : Int32) (l3 : Option Nat) (l4 : Int32) (s0 : Int32) (M : mM) : Prop :=
    ((k9 ≤ 72 ∧ n9 ≤ 11736) ∧ m_gI M l0 19 3 fun x1 => m_p M l0 19 3 (.int (m_rem ((21 * x1) + 11) 4096)) fun M2 => m_gI M2 l0 19 4 fun x3 => m_p M2 l0 19 4 (.int (x3 + 1)) fun M4 => wX14_comeThrough_81 g κ k9 n9 l0 l1 l3 l4 s0 M4)
def wX14_comeThrough (g : Nat → Nat) (κ : Int32 → mM → Prop) (l0 : Option Nat) (l1 : Int32) (l2 : Option Nat) (M : mM) : Prop :=
    m_gR M l0 19 8 fun x1 => m_rc M x1 4 fun b4 => wJx4a65c_get_915e3 (fun x2 M3 => m_cast M3 x2 18 (m_gI M3 x2 18 0 fun x5 => m_rc M3 l2 15 fun b8 => wX10_beyond (fun x6 M7 => m_rc M7 l2 15 fun b11 => wX10_dozes (fun x9 M10 => ((x9 = 0 → m_gI M10 l0 19 3 fun x13 => m_gI M10 l2 15 4 fun x14 => ((x14 ≤ (m_rem x13 10) → wX14_comeThrough_51 g κ 0 0 l0 l1 x2 x6 0 M10) ∧ (¬ (x14 ≤ (m_rem x13 10)) → wX14_comeThrough_51 g κ 0 0 l0 l1 x2 x6 1 M10))) ∧ (¬ (x9 = 0) → wX14_comeThrough_81 g κ 0 0 l0 l1 x2 x6 0 M10))) (some b11) M7) (some b8) x5 M3)) (some b4) l1 M
def wX14_yawn_52 (g : Nat → Nat) (κ : Int32 → mM → Prop) (l0 : Option Nat) (M : mM) : Prop :=
    m_rc M l0 19 fun b3 => wX14_refuse (fun x1 M2 => κ x1 M2) (some b3) 2 M
def wX14_yawn_189 (g : Nat → Nat) (κ : Int32 → mM → Prop) (R121 : Option Nat → Option Nat → Int32 → Int32 → mM → Prop) (l0 : Option Nat) (l2 : Option Nat) (l4 : Int32) (l5 : Int32) (M : mM) : Prop :=
    R121 l0 l2 l4 (l5 + (-1)) M
def wX14_yawn_121 (g : Nat → Nat) (κ : Int32 → mM → Prop) : Nat → Option Nat → Option Nat → Int32 → Int32 → mM → Prop
  | 0 => fun _ _ _ _ _ => False
  | f + 1 => fun (l0 : Option Nat) (l2 : Option Nat) (l4 : Int32) (l5 : Int32) (M : mM) =>
    ((l5 < 0 → κ l4 M) ∧ (¬ (l5 < 0) → m_gR M l2 15 6 fun x2 => m_rc M x2 4 fun b5 => wJx4a65c_get_915e3 (fun x3 M4 => m_cast M4 x3 2 (m_rc M4 x3 2 fun b8 => wJ6_intValue_8abf5 (fun x6 M7 => m_gR M7 l0 19 8 fun x9 => m_rc M7 x9 4 fun b12 => wJx4a65c_get_915e3 (fun x10 M11 => m_cast M11 x10 18 (m_gI M11 x10 18 2 fun x13 => m_p M11 x10 18 2 (.int (x13 - 1)) fun M14 => m_gR M14 l0 19 8 fun x15 => m_rc M14 x15 4 fun b18 => wJx4a65c_get_915e3 (fun x16 M17 => m_cast M17 x16 18 (m_gI M17 x16 18 2 fun x19 => ((x19 = 0 → m_rc M17 l0 19 fun b22 => wX14_stepOut (fun M21 => wX14_yawn_189 g κ (wX14_yawn_121 g κ f) l0 l2 l4 l5 M21) (some b22) x6 2 M17) ∧ (¬ (x19 = 0) → wX14_yawn_189 g κ (wX14_yawn_121 g κ f) l0 l2 l4 l5 M17)))) (some b18) x6 M14)) (some b12) x6 M7) (some b8) M4)) (some b5) l5 M))
def wX14_yawn_108 (g : Nat → Nat) (κ : Int32 → mM → Prop) (l0 : Option Nat) (l2 : Option Nat) (s0 : Int32) (M : mM) : Prop :=
    m_gR M l2 15 6 fun x1 => m_rc M x1 4 fun b4 => wJx4a65c_size_8abf5 (fun x2 M3 => ∃ u : Nat, wX14_yawn_121 g κ u l0 l2 s0 (x2 - 1) M3) (some b4) M
def wX14_yawn (g : Nat → Nat) (κ : Int32 → mM → Prop) (l0 : Option Nat) (l1 : Int32) (M : mM) : Prop :=
    m_p M l0 19 0 (.int 0) fun M1 => m_rc M1 l0 19 fun b4 => wX14_isGate (fun x2 M3 => ((x2 = 0 → m_rc M3 l0 19 fun b40 => wX14_refuse (fun x38 M39 => κ x38 M39) (some b40) 1 M3) ∧ (¬ (x2 = 0) → m_gR M3 l0 19 7 fun x6 => m_rc M3 x6 4 fun b9 => wJx4a65c_get_915e3 (fun x7 M8 => m_cast M8 x7 15 (m_gI M8 l0 19 2 fun x10 => m_rc M8 x7 15 fun b13 => wX10_isOpen (fun x11 M12 => ((x11 = 0 → wX14_yawn_52 g κ l0 M12) ∧ (¬ (x11 = 0) → m_gR M12 x7 15 6 fun x15 => m_rc M12 x15 4 fun b18 => wJx4a65c_isEmpty_aae02 (fun x16 M17 => ((x16 = 0 → m_gI M17 l0 19 5 fun x20 => m_p M17 l0 19 5 (.int (x20 + 1)) fun M21 => m_gR M21 x7 15 6 fun x22 => m_rc M21 x22 4 fun b25 => wJx4a65c_get_915e3 (fun x23 M24 => m_cast M24 x23 2 (m_rc M24 x23 2 fun b28 => wJ6_intValue_8abf5 (fun x26 M27 => m_rc M27 l0 19 fun b30 => wX14_stepOut (fun M29 => m_rc M29 l0 19 fun b33 => wX14_isGoodNow (fun x31 M32 => ((x31 = 0 → wX14_yawn_108 g κ l0 x7 (-1) M32) ∧ (¬ (x31 = 0) → m_rc M32 l0 19 fun b37 => wX14_comeThrough g (fun x35 M36 => wX14_yawn_108 g κ l0 x7 x35 M36) (some b37) x26 x7 M32))) (some b33) x26 l1 M29) (some b30) x26 0 M27) (some b28) M24)) (some b25) 0 M21) ∧ (¬ (x16 = 0) → wX14_yawn_52 g κ l0 M17))) (some b18) M12))) (some b13) x10 M8)) (some b9) l1 M3))) (some b4) l1 M1
def wX14_appeal_68 (κ : Int32 → mM → Prop) (l0 : Option Nat) (l1 : Int32) (M : mM) : Prop :=
    m_gI M l0 19 0 fun x1 => ((x1 ≤ 0 → m_gR M l0 19 9 fun x3 => m_rc M x3 4 fun b6 => wJx4a65c_get_915e3 (fun x4 M5 => m_cast M5 x4 17 (m_gR M5 l0 19 6 fun x7 => m_gI M5 x4 17 4 fun x8 => m_ldR M5 x7 (x8 - 100) 4 fun x9 => m_gR M5 l0 19 8 fun x10 => m_gI M5 x4 17 5 fun x11 => m_rc M5 x10 4 fun b14 => wJx4a65c_get_915e3 (fun x12 M13 => m_cast M13 x12 18 (m_gI M13 x4 17 1 fun x15 => m_gI M13 x9 16 1 fun x16 => ((x16 < x15 → κ 0 M13) ∧ (¬ (x16 < x15) → m_gI M13 x12 18 0 fun x18 => m_gI M13 x4 17 4 fun x19 => ((x18 = (x19 - 100) → m_gI M13 x12 18 3 fun x21 => ((x21 = 0 → m_gI M13 x9 16 5 fun x23 => m_gI M13 x4 17 1 fun x24 => m_p M13 x9 16 5 (.int (x23 - x24)) fun M25 => m_gI M25 x4 17 5 fun x26 => m_p M25 x4 17 4 (.int x26) fun M27 => m_p M27 x4 17 3 (.int 2) fun M28 => κ 1 M28) ∧ (¬ (x21 = 0) → κ 0 M13))) ∧ (¬ (x18 = (x19 - 100)) → κ 0 M13)))))) (some b14) x11 M5)) (some b6) l1 M) ∧ (¬ (x1 ≤ 0) → κ 0 M))
def wX14_appeal_63 (κ : Int32 → mM → Prop) (l0 : Option Nat) (l1 : Int32) (M : mM) : Prop :=
    m_p M l0 19 0 (.int 2) fun M1 => wX14_appeal_68 κ l0 l1 M1
def wX14_appeal (κ : Int32 → mM → Prop) (l0 : Option Nat) (l1 : Int32) (M : mM) : Prop :=
    m_p M l0 19 0 (.int 0) fun M1 => m_rc M1 l0 19 fun b4 => wX14_isPart (fun x2 M3 => ((x2 = 0 → m_p M3 l0 19 0 (.int 1) fun M20 => wX14_appeal_68 κ l0 l1 M20) ∧ (¬ (x2 = 0) → m_gR M3 l0 19 9 fun x6 => m_rc M3 x6 4 fun b9 => wJx4a65c_get_915e3 (fun x7 M8 => m_cast M8 x7 17 (m_gI M8 x7 17 3 fun x10 => ((x10 = 3 → m_gR M8 l0 19 9 fun x12 => m_rc M8 x12 4 fun b15 => wJx4a65c_get_915e3 (fun x13 M14 => m_cast M14 x13 17 (m_gI M14 x13 17 4 fun x16 => wX14_is (fun x17 M18 => ((x17 = 0 → wX14_appeal_63 κ l0 l1 M18) ∧ (¬ (x17 = 0) → wX14_appeal_68 κ l0 l1 M18))) x16 100 105 M14)) (some b15) l1 M8) ∧ (¬ (x10 = 3) → wX14_appeal_63 κ l0 l1 M8)))) (some b9) l1 M3))) (some b4) l1 M1
def wX14_begin_356 (κ : mM → Prop) (R276 : Option Nat → Int32 → mM → Prop) (l0 : Option Nat) (l1 : Int32) (s0 : Int32) (s1 : Option Nat) (M : mM) : Prop :=
    m_p M s1 15 5 (.int s0) fun M1 => R276 l0 (l1 + 1) M1
def wX14_begin_328 (κ : mM → Prop) (R276 : Option Nat → Int32 → mM → Prop) (R301 : Option Nat → Int32 → Option Nat → Int32 → mM → Prop) (l0 : Option Nat) (l1 : Int32) (l2 : Option Nat) (l3 : Int32) (M : mM) : Prop :=
    R301 l0 l1 l2 (l3 + 1) M
def wX14_begin_301 (κ : mM → Prop) (R276 : Option Nat → Int32 → mM → Prop) : Nat → Option Nat → Int32 → Option Nat → Int32 → mM → Prop
  | 0 => fun _ _ _ _ _ => False
  | f + 1 => fun (l0 : Option Nat) (l1 : Int32) (l2 : Option Nat) (l3 : Int32) (M : mM) =>
    ((97 ≤ l3 → m_gI M l0 19 2 fun x2 => m_rc M l2 15 fun b5 => wX10_isOpen (fun x3 M4 => ((x3 = 0 → wX14_begin_356 κ R276 l0 l1 0 l2 M4) ∧ (¬ (x3 = 0) → m_gI M4 l2 15 5 fun x7 => wX14_begin_356 κ R276 l0 l1 (x7 + 1) l2 M4))) (some b5) x2 M) ∧ (¬ (97 ≤ l3) → m_gR M l0 19 11 fun x8 => m_ldI M x8 ((l1 * 97) + l3) 1 fun x9 => ((x9 = 0 → wX14_begin_328 κ R276 (wX14_begin_301 κ R276 f) l0 l1 l2 l3 M) ∧ (¬ (x9 = 0) → m_gR M l2 15 7 fun x11 => m_stZ M x11 l3 1 fun M12 => wX14_begin_328 κ R276 (wX14_begin_301 κ R276 f) l0 l1 l2 l3 M12))))
def wX14_begin_276 (κ : mM → Prop) : Nat → Option Nat → Int32 → mM → Prop
  | 0 => fun _ _ _ => False
  | f + 1 => fun (l0 : Option Nat) (l1 : Int32) (M : mM) =>
    m_gR M l0 19 7 fun x1 => m_rc M x1 4 fun b4 => wJx4a65c_size_8abf5 (fun x2 M3 => ((x2 ≤ l1 → κ M3) ∧ (¬ (x2 ≤ l1) → m_gR M3 l0 19 7 fun x6 => m_rc M3 x6 4 fun b9 => wJx4a65c_get_915e3 (fun x7 M8 => m_cast M8 x7 15 (∃ u : Nat, wX14_begin_301 κ (wX14_begin_276 κ f) u l0 l1 x7 0 M8)) (some b9) l1 M3))) (some b4) M
def wX14_begin_262 (κ : mM → Prop) (R146 : Option Nat → Int32 → mM → Prop) (R159 : Option Nat → Int32 → Int32 → mM → Prop) (l0 : Option Nat) (l1 : Int32) (l2 : Int32) (M : mM) : Prop :=
    R159 l0 l1 (l2 + 1) M
def wX14_begin_256 (κ : mM → Prop) (R146 : Option Nat → Int32 → mM → Prop) (R159 : Option Nat → Int32 → Int32 → mM → Prop) (R225 : Option Nat → Int32 → Int32 → Option Nat → Int32 → mM → Prop) (l0 : Option Nat) (l1 : Int32) (l2 : Int32) (l4 : Option Nat) (l5 : Int32) (M : mM) : Prop :=
    R225 l0 l1 l2 l4 (l5 + 1) M
def wX14_begin_225 (κ : mM → Prop) (R146 : Option Nat → Int32 → mM → Prop) (R159 : Option Nat → Int32 → Int32 → mM → Prop) : Nat → Option Nat → Int32 → Int32 → Option Nat → Int32 → mM → Prop
  | 0 => fun _ _ _ _ _ _ => False
  | f + 1 => fun (l0 : Option Nat) (l1 : Int32) (l2 : Int32) (l4 : Option Nat) (l5 : Int32) (M : mM) =>
    ((97 ≤ l5 → wX14_begin_262 κ R146 R159 l0 l1 l2 M) ∧ (¬ (97 ≤ l5) → m_gR M l4 15 7 fun x2 => m_ldI M x2 l5 1 fun x3 => ((x3 = 0 → wX14_begin_256 κ R146 R159 (wX14_begin_225 κ R146 R159 f) l0 l1 l2 l4 l5 M) ∧ (¬ (x3 = 0) → m_gR M l0 19 11 fun x5 => m_stZ M x5 ((l1 * 97) + l5) 1 fun M6 => wX14_begin_256 κ R146 R159 (wX14_begin_225 κ R146 R159 f) l0 l1 l2 l4 l5 M6))))
def wX14_begin_222 (κ : mM → Prop) (R146 : Option Nat → Int32 → mM → Prop) (R159 : Option Nat → Int32 → Int32 → mM → Prop) (l0 : Option Nat) (l1 : Int32) (l2 : Int32) (l4 : Option Nat) (M : mM) : Prop :=
    ∃ u : Nat, wX14_begin_225 κ R146 R159 u l0 l1 l2 l4 0 M
def wX14_begin_159 (κ : mM → Prop) (R146 : Option Nat → Int32 → mM → Prop) : Nat → Option Nat → Int32 → Int32 → mM → Prop
  | 0 => fun _ _ _ _ => False
  | f + 1 => fun (l0 : Option Nat) (l1 : Int32) (l2 : Int32) (M : mM) =>
    m_gR M l0 19 7 fun x1 => m_rc M x1 4 fun b4 => wJx4a65c_size_8abf5 (fun x2 M3 => ((x2 ≤ l2 → R146 l0 (l1 + 1) M3) ∧ (¬ (x2 ≤ l2) → m_gR M3 l0 19 7 fun x6 => m_rc M3 x6 4 fun b9 => wJx4a65c_get_915e3 (fun x7 M8 => m_cast M8 x7 15 (m_gR M8 l0 19 7 fun x10 => m_rc M8 x10 4 fun b13 => wJx4a65c_get_915e3 (fun x11 M12 => m_cast M12 x11 15 (m_gI M12 x11 15 0 fun x14 => m_rc M12 x7 15 fun b17 => wX10_has (fun x15 M16 => ((x15 = 0 → m_gI M16 x11 15 1 fun x19 => m_rc M16 x7 15 fun b22 => wX10_has (fun x20 M21 => ((x20 = 0 → wX14_begin_262 κ R146 (wX14_begin_159 κ R146 f) l0 l1 l2 M21) ∧ (¬ (x20 = 0) → wX14_begin_222 κ R146 (wX14_begin_159 κ R146 f) l0 l1 l2 x11 M21))) (some b22) x19 M16) ∧ (¬ (x15 = 0) → wX14_begin_222 κ R146 (wX14_begin_159 κ R146 f) l0 l1 l2 x11 M16))) (some b17) x14 M12)) (some b13) l2 M8)) (some b9) l1 M3))) (some b4) M
def wX14_begin_146 (κ : mM → Prop) : Nat → Option Nat → Int32 → mM → Prop
  | 0 => fun _ _ _ => False
  | f + 1 => fun (l0 : Option Nat) (l1 : Int32) (M : mM) =>
    m_gR M l0 19 7 fun x1 => m_rc M x1 4 fun b4 => wJx4a65c_size_8abf5 (fun x2 M3 => ((x2 ≤ l1 → ∃ u : Nat, wX14_begin_276 κ u l0 0 M3) ∧ (¬ (x2 ≤ l1) → ∃ u : Nat, wX14_begin_159 κ (wX14_begin_146 κ f) u l0 l1 0 M3))) (some b4) M
def wX14_begin_122 (κ : mM → Prop) : Nat → Option Nat → Int32 → mM → Prop
  | 0 => fun _ _ _ => False
  | f + 1 => fun (l0 : Option Nat) (l1 : Int32) (M : mM) =>
    m_gR M l0 19 11 fun x1 => m_len M x1 fun x2 => ((x2 ≤ l1 → ∃ u : Nat, wX14_begin_146 κ u l0 0 M) ∧ (¬ (x2 ≤ l1) → m_gR M l0 19 11 fun x4 => m_stZ M x4 l1 0 fun M5 => (wX14_begin_122 κ f) l0 (l1 + 1) M5))
def wX14_begin_120 (κ : mM → Prop) (l0 : Option Nat) (M : mM) : Prop :=
    ∃ u : Nat, wX14_begin_122 κ u l0 0 M
def wX14_begin_117 (κ : mM → Prop) (R74 : Option Nat → Option Nat → mM → Prop) (l0 : Option Nat) (l1 : Option Nat) (M : mM) : Prop :=
    R74 l0 l1 M
def wX14_begin_74 (κ : mM → Prop) : Nat → Option Nat → Option Nat → mM → Prop
  | 0 => fun _ _ _ => False
  | f + 1 => fun (l0 : Option Nat) (l1 : Option Nat) (M : mM) =>
    m_rc M l1 3 fun b1 => wJx35411_hasNext_aae02 (fun x2 M3 => ((x2 = 0 → wX14_begin_120 κ l0 M3) ∧ (¬ (x2 = 0) → m_rc M3 l1 3 fun b5 => wJx35411_next_0502b (fun x6 M7 => m_cast M7 x6 18 (m_gI M7 x6 18 8 fun x8 => ((x8 = (-1) → wX14_begin_117 κ (wX14_begin_74 κ f) l0 l1 M7) ∧ (¬ (x8 = (-1)) → m_gI M7 x6 18 7 fun x10 => m_gI M7 l0 19 1 fun x11 => ((x11 ≤ x10 → wX14_begin_117 κ (wX14_begin_74 κ f) l0 l1 M7) ∧ (¬ (x11 ≤ x10) → m_p M7 x6 18 8 (.int (-1)) fun M13 => wX14_begin_117 κ (wX14_begin_74 κ f) l0 l1 M13)))))) (some b5) M3))) (some b1) M
def wX14_begin_44 (κ : mM → Prop) : Nat → Option Nat → Option Nat → Int32 → Int32 → mM → Prop
  | 0 => fun _ _ _ _ _ => False
  | f + 1 => fun (l0 : Option Nat) (l1 : Option Nat) (l2 : Int32) (l3 : Int32) (M : mM) =>
    ((l2 ≤ l3 → m_gR M l0 19 8 fun x2 => m_rc M x2 4 fun b5 => wJx4a65c_iterator_32c93 (fun x3 M4 => ∃ u : Nat, wX14_begin_74 κ u l0 x3 M4) (some b5) M) ∧ (¬ (l2 ≤ l3) → m_ldR M l1 l3 4 fun x6 => m_p M x6 16 3 (.int 0) fun M7 => (wX14_begin_44 κ f) l0 l1 l2 (l3 + 1) M7))
def wX14_begin (κ : mM → Prop) (l0 : Option Nat) (M : mM) : Prop :=
    m_gI M l0 19 2 fun x1 => m_p M l0 19 2 (.int (x1 + 1)) fun M2 => m_gI M2 l0 19 2 fun x3 => ((x3 = 24 → m_p M2 l0 19 2 (.int 0) fun M5 => m_gI M5 l0 19 1 fun x6 => m_p M5 l0 19 1 (.int (x6 + 1)) fun M7 => m_gR M7 l0 19 6 fun x8 => m_len M7 x8 fun x9 => ∃ u : Nat, wX14_begin_44 κ u l0 x8 x9 0 M7) ∧ (¬ (x3 = 24) → wX14_begin_120 κ l0 M2))
def wX14_pass_48 (κ : Int32 → mM → Prop) : Nat → Nat → Nat → Option Nat → Int32 → Int32 → mM → Prop
  | 0 => fun _ _ _ _ _ _ => False
  | f + 1 => fun (k9 n9 : Nat) (l0 : Option Nat) (l1 : Int32) (l2 : Int32) (M : mM) =>
    ((k9 ≤ 48 ∧ n9 ≤ 192) ∧ ((l1 ≤ l2 → m_gI M l0 19 2 fun x2 => ((k9 ≤ 48 ∧ n9 ≤ 192) ∧ κ x2 M)) ∧ (¬ (l1 ≤ l2) → ((k9 + 1 ≤ 48 ∧ n9 + 4 ≤ 192) ∧ m_rc M l0 19 fun b4 => wX14_begin (fun M3 => (wX14_pass_48 κ f) (k9 + 1) (n9 + 4) l0 l1 (l2 + 1) M3) (some b4) M))))
def wX14_pass (κ : Int32 → mM → Prop) (l0 : Option Nat) (l1 : Int32) (M : mM) : Prop :=
    m_p M l0 19 0 (.int 0) fun M1 => wX14_is (fun x2 M3 => ((x2 = 0 → m_rc M3 l0 19 fun b13 => wX14_refuse (fun x11 M12 => ((0 ≤ 48 ∧ 0 ≤ 192) ∧ κ x11 M12)) (some b13) 1 M3) ∧ (¬ (x2 = 0) → m_gI M3 l0 19 1 fun x5 => m_gI M3 l0 19 2 fun x6 => (((x5 + ((x6 + l1) / 24)) ≤ 99 → ∃ u : Nat, wX14_pass_48 κ u 0 0 l0 l1 0 M3) ∧ (¬ ((x5 + ((x6 + l1) / 24)) ≤ 99) → m_rc M3 l0 19 fun b10 => wX14_refuse (fun x8 M9 => ((0 ≤ 48 ∧ 0 ≤ 192) ∧ κ x8 M9)) (some b10) 2 M3))))) l1 1 48 M1
def wX14_landOf (κ : Int32 → mM → Prop) (l0 : Option Nat) (l1 : Option Nat) (M : mM) : Prop :=
    m_gI M l1 17 4 fun x1 => ((x1 = 999 → κ (-1) M) ∧ (¬ (x1 = 999) → m_gI M l1 17 4 fun x3 => ((x3 < 100 → m_gR M l0 19 8 fun x5 => m_gI M l1 17 4 fun x6 => m_rc M x5 4 fun b9 => wJx4a65c_get_915e3 (fun x7 M8 => m_cast M8 x7 18 (m_gI M8 x7 18 0 fun x10 => κ x10 M8)) (some b9) x6 M) ∧ (¬ (x3 < 100) → m_gI M l1 17 4 fun x11 => κ (x11 - 100) M))))
def wX14_wholes_110 (κ : Int32 → mM → Prop) (R4 : Option Nat → Int32 → Int32 → Int32 → mM → Prop) (l0 : Option Nat) (l1 : Int32) (l3 : Int32) (s0 : Int32) (s1 : Int32) (M : mM) : Prop :=
    R4 l0 l1 (s1 ||| s0) (l3 + 1) M
def wX14_wholes_109 (κ : Int32 → mM → Prop) (R4 : Option Nat → Int32 → Int32 → Int32 → mM → Prop) (l0 : Option Nat) (l1 : Int32) (l3 : Int32) (s0 : Int32) (M : mM) : Prop :=
    wX14_wholes_110 κ R4 l0 l1 l3 0 s0 M
def wX14_wholes_86 (κ : Int32 → mM → Prop) (R4 : Option Nat → Int32 → Int32 → Int32 → mM → Prop) (R19 : Option Nat → Int32 → Int32 → Int32 → Int32 → Int32 → Int32 → mM → Prop) (l0 : Option Nat) (l1 : Int32) (l2 : Int32) (l3 : Int32) (l4 : Int32) (l5 : Int32) (l6 : Int32) (M : mM) : Prop :=
    R19 l0 l1 l2 l3 l4 l5 (l6 + 1) M
def wX14_wholes_83 (κ : Int32 → mM → Prop) (R4 : Option Nat → Int32 → Int32 → Int32 → mM → Prop) (R19 : Option Nat → Int32 → Int32 → Int32 → Int32 → Int32 → Int32 → mM → Prop) (l0 : Option Nat) (l1 : Int32) (l2 : Int32) (l3 : Int32) (l4 : Int32) (l6 : Int32) (s0 : Int32) (s1 : Int32) (M : mM) : Prop :=
    wX14_wholes_86 κ R4 R19 l0 l1 l2 l3 l4 (s1 &&& s0) l6 M
def wX14_wholes_19 (κ : Int32 → mM → Prop) (R4 : Option Nat → Int32 → Int32 → Int32 → mM → Prop) : Nat → Option Nat → Int32 → Int32 → Int32 → Int32 → Int32 → Int32 → mM → Prop
  | 0 => fun _ _ _ _ _ _ _ _ => False
  | f + 1 => fun (l0 : Option Nat) (l1 : Int32) (l2 : Int32) (l3 : Int32) (l4 : Int32) (l5 : Int32) (l6 : Int32) (M : mM) =>
    m_gR M l0 19 9 fun x1 => m_rc M x1 4 fun b4 => wJx4a65c_size_8abf5 (fun x2 M3 => ((x2 ≤ l6 → ((l5 = 0 → wX14_wholes_109 κ R4 l0 l1 l3 l2 M3) ∧ (¬ (l5 = 0) → ((l4 ≤ 0 → wX14_wholes_109 κ R4 l0 l1 l3 l2 M3) ∧ (¬ (l4 ≤ 0) → wX14_wholes_110 κ R4 l0 l1 l3 (m_shl 1 l3) l2 M3))))) ∧ (¬ (x2 ≤ l6) → m_gR M3 l0 19 9 fun x8 => m_rc M3 x8 4 fun b11 => wJx4a65c_get_915e3 (fun x9 M10 => m_cast M10 x9 17 (m_gI M10 x9 17 0 fun x12 => ((x12 = l3 → m_gR M10 l0 19 9 fun x14 => m_rc M10 x14 4 fun b17 => wJx4a65c_get_915e3 (fun x15 M16 => m_cast M16 x15 17 (m_rc M16 l0 19 fun b20 => wX14_landOf (fun x18 M19 => ((x18 = l1 → wX14_wholes_83 κ R4 (wX14_wholes_19 κ R4 f) l0 l1 l2 l3 (l4 + 1) l6 1 l5 M19) ∧ (¬ (x18 = l1) → wX14_wholes_83 κ R4 (wX14_wholes_19 κ R4 f) l0 l1 l2 l3 (l4 + 1) l6 0 l5 M19))) (some b20) x15 M16)) (some b17) l6 M10) ∧ (¬ (x12 = l3) → wX14_wholes_86 κ R4 (wX14_wholes_19 κ R4 f) l0 l1 l2 l3 l4 l5 l6 M10)))) (some b11) l6 M3))) (some b4) M
def wX14_wholes_4 (κ : Int32 → mM → Prop) : Nat → Option Nat → Int32 → Int32 → Int32 → mM → Prop
  | 0 => fun _ _ _ _ _ => False
  | f + 1 => fun (l0 : Option Nat) (l1 : Int32) (l2 : Int32) (l3 : Int32) (M : mM) =>
    ((8 ≤ l3 → κ l2 M) ∧ (¬ (8 ≤ l3) → ∃ u : Nat, wX14_wholes_19 κ (wX14_wholes_4 κ f) u l0 l1 l2 l3 0 1 0 M))
def wX14_wholes (κ : Int32 → mM → Prop) (l0 : Option Nat) (l1 : Int32) (M : mM) : Prop :=
    ∃ u : Nat, wX14_wholes_4 κ u l0 l1 0 0 M
def wX14_ofLandNow_130 (κ : Int32 → mM → Prop) (R89 : Option Nat → Int32 → Int32 → Int32 → mM → Prop) (l0 : Option Nat) (l1 : Int32) (l5 : Int32) (s0 : Int32) (s1 : Int32) (M : mM) : Prop :=
    R89 l0 l1 (s1 + s0) (l5 + 1) M
def wX14_ofLandNow_89 (κ : Int32 → mM → Prop) : Nat → Option Nat → Int32 → Int32 → Int32 → mM → Prop
  | 0 => fun _ _ _ _ _ => False
  | f + 1 => fun (l0 : Option Nat) (l1 : Int32) (l4 : Int32) (l5 : Int32) (M : mM) =>
    m_gR M l0 19 9 fun x1 => m_rc M x1 4 fun b4 => wJx4a65c_size_8abf5 (fun x2 M3 => ((x2 ≤ l5 → κ l4 M3) ∧ (¬ (x2 ≤ l5) → m_gR M3 l0 19 9 fun x6 => m_rc M3 x6 4 fun b9 => wJx4a65c_get_915e3 (fun x7 M8 => m_cast M8 x7 17 (m_gI M8 x7 17 4 fun x10 => ((x10 = (100 + l1) → wX14_ofLandNow_130 κ (wX14_ofLandNow_89 κ f) l0 l1 l5 1 l4 M8) ∧ (¬ (x10 = (100 + l1)) → wX14_ofLandNow_130 κ (wX14_ofLandNow_89 κ f) l0 l1 l5 0 l4 M8)))) (some b9) l5 M3))) (some b4) M
def wX14_ofLandNow_202 (κ : Int32 → mM → Prop) (R145 : Option Nat → Int32 → Int32 → Int32 → mM → Prop) (l0 : Option Nat) (l1 : Int32) (l5 : Int32) (s0 : Int32) (s1 : Int32) (M : mM) : Prop :=
    R145 l0 l1 (s1 + s0) (l5 + 1) M
def wX14_ofLandNow_201 (κ : Int32 → mM → Prop) (R145 : Option Nat → Int32 → Int32 → Int32 → mM → Prop) (l0 : Option Nat) (l1 : Int32) (l5 : Int32) (s0 : Int32) (M : mM) : Prop :=
    wX14_ofLandNow_202 κ R145 l0 l1 l5 0 s0 M
def wX14_ofLandNow_145 (κ : Int32 → mM → Prop) : Nat → Option Nat → Int32 → Int32 → Int32 → mM → Prop
  | 0 => fun _ _ _ _ _ => False
  | f + 1 => fun (l0 : Option Nat) (l1 : Int32) (l4 : Int32) (l5 : Int32) (M : mM) =>
    m_gR M l0 19 8 fun x1 => m_rc M x1 4 fun b4 => wJx4a65c_size_8abf5 (fun x2 M3 => ((x2 ≤ l5 → κ l4 M3) ∧ (¬ (x2 ≤ l5) → m_gR M3 l0 19 8 fun x6 => m_rc M3 x6 4 fun b9 => wJx4a65c_get_915e3 (fun x7 M8 => m_cast M8 x7 18 (m_gI M8 x7 18 0 fun x10 => ((x10 = l1 → m_gR M8 l0 19 8 fun x12 => m_rc M8 x12 4 fun b15 => wJx4a65c_get_915e3 (fun x13 M14 => m_cast M14 x13 18 (m_gI M14 x13 18 3 fun x16 => ((x16 = 2 → wX14_ofLandNow_201 κ (wX14_ofLandNow_145 κ f) l0 l1 l5 l4 M14) ∧ (¬ (x16 = 2) → wX14_ofLandNow_202 κ (wX14_ofLandNow_145 κ f) l0 l1 l5 1 l4 M14)))) (some b15) l5 M8) ∧ (¬ (x10 = l1) → wX14_ofLandNow_201 κ (wX14_ofLandNow_145 κ f) l0 l1 l5 l4 M8)))) (some b9) l5 M3))) (some b4) M
def wX14_ofLandNow (κ : Int32 → mM → Prop) (l0 : Option Nat) (l1 : Int32) (l2 : Int32) (M : mM) : Prop :=
    m_gR M l0 19 6 fun x1 => m_ldR M x1 l1 4 fun x2 => ((l2 = 0 → m_gI M x2 16 0 fun x4 => κ x4 M) ∧ (¬ l2 = 0 → ((l2 = 1 → m_gI M x2 16 1 fun x6 => κ x6 M) ∧ (¬ l2 = 1 → ((l2 = 2 → m_gI M x2 16 2 fun x8 => κ x8 M) ∧ (¬ l2 = 2 → ((l2 = 3 → m_gI M x2 16 3 fun x10 => κ x10 M) ∧ (¬ l2 = 3 → ((l2 = 4 → m_gI M x2 16 4 fun x12 => κ x12 M) ∧ (¬ l2 = 4 → ((l2 = 5 → m_gI M x2 16 5 fun x14 => κ x14 M) ∧ (¬ l2 = 5 → ((l2 = 6 → ∃ u : Nat, wX14_ofLandNow_89 κ u l0 l1 0 0 M) ∧ (¬ l2 = 6 → ((l2 = 7 → ∃ u : Nat, wX14_ofLandNow_145 κ u l0 l1 0 0 M) ∧ (¬ l2 = 7 → m_rc M l0 19 fun b19 => wX14_wholes (fun x17 M18 => κ x17 M18) (some b19) l1 M))))))))))))))))
def wX14_ofLand (κ : Int32 → mM → Prop) (l0 : Option Nat) (l1 : Int32) (l2 : Int32) (M : mM) : Prop :=
    m_p M l0 19 0 (.int 0) fun M1 => m_rc M1 l0 19 fun b4 => wX14_isLand (fun x2 M3 => ((x2 = 0 → m_rc M3 l0 19 fun b17 => wX14_refuse (fun x15 M16 => κ x15 M16) (some b17) 1 M3) ∧ (¬ (x2 = 0) → wX14_is (fun x6 M7 => ((x6 = 0 → m_rc M7 l0 19 fun b11 => wX14_refuse (fun x9 M10 => κ x9 M10) (some b11) 2 M7) ∧ (¬ (x6 = 0) → m_rc M7 l0 19 fun b14 => wX14_ofLandNow (fun x12 M13 => κ x12 M13) (some b14) l1 l2 M7))) l2 0 8 M3))) (some b4) l1 M1
def wX14_hiddenWorth_87 (κ : Int32 → mM → Prop) (R4 : Option Nat → Option Nat → Int32 → Int32 → mM → Prop) (l0 : Option Nat) (l1 : Option Nat) (l2 : Int32) (l3 : Int32) (M : mM) : Prop :=
    R4 l0 l1 l2 (l3 + 1) M
def wX14_hiddenWorth_4 (κ : Int32 → mM → Prop) : Nat → Option Nat → Option Nat → Int32 → Int32 → mM → Prop
  | 0 => fun _ _ _ _ _ => False
  | f + 1 => fun (l0 : Option Nat) (l1 : Option Nat) (l2 : Int32) (l3 : Int32) (M : mM) =>
    m_gR M l0 19 9 fun x1 => m_rc M x1 4 fun b4 => wJx4a65c_size_8abf5 (fun x2 M3 => ((x2 ≤ l3 → κ l2 M3) ∧ (¬ (x2 ≤ l3) → m_gR M3 l0 19 9 fun x6 => m_rc M3 x6 4 fun b9 => wJx4a65c_get_915e3 (fun x7 M8 => m_cast M8 x7 17 (m_gI M8 x7 17 4 fun x10 => ((100 ≤ x10 → wX14_hiddenWorth_87 κ (wX14_hiddenWorth_4 κ f) l0 l1 l2 l3 M8) ∧ (¬ (100 ≤ x10) → m_rc M8 l1 15 fun b14 => wX10_place (fun x12 M13 => ((x12 = (-1) → wX14_hiddenWorth_87 κ (wX14_hiddenWorth_4 κ f) l0 l1 l2 l3 M13) ∧ (¬ (x12 = (-1)) → m_gR M13 l0 19 8 fun x16 => m_rc M13 x16 4 fun b19 => wJx4a65c_get_915e3 (fun x17 M18 => m_cast M18 x17 18 (m_gI M18 x17 18 5 fun x20 => ((((m_shr x20 l3) &&& 1) = 0 → m_gR M18 l0 19 9 fun x22 => m_rc M18 x22 4 fun b25 => wJx4a65c_get_915e3 (fun x23 M24 => m_cast M24 x23 17 (m_gI M24 x23 17 1 fun x26 => wX14_hiddenWorth_87 κ (wX14_hiddenWorth_4 κ f) l0 l1 (l2 + x26) l3 M24)) (some b25) l3 M18) ∧ (¬ (((m_shr x20 l3) &&& 1) = 0) → wX14_hiddenWorth_87 κ (wX14_hiddenWorth_4 κ f) l0 l1 l2 l3 M18)))) (some b19) x10 M13))) (some b14) x10 M8)))) (some b9) l3 M3))) (some b4) M
def wX14_hiddenWorth (κ : Int32 → mM → Prop) (l0 : Option Nat) (l1 : Option Nat) (M : mM) : Prop :=
    ∃ u : Nat, wX14_hiddenWorth_4 κ u l0 l1 0 0 M
def wX14_ofGateNow_201 (κ : Int32 → mM → Prop) (R175 : Int32 → Option Nat → Int32 → Int32 → mM → Prop) (l5 : Option Nat) (l6 : Int32) (l7 : Int32) (s0 : Int32) (s1 : Int32) (M : mM) : Prop :=
    R175 (s1 + s0) l5 l6 (l7 + 1) M
def wX14_ofGateNow_175 (κ : Int32 → mM → Prop) : Nat → Int32 → Option Nat → Int32 → Int32 → mM → Prop
  | 0 => fun _ _ _ _ _ => False
  | f + 1 => fun (l4 : Int32) (l5 : Option Nat) (l6 : Int32) (l7 : Int32) (M : mM) =>
    ((l6 ≤ l7 → κ l4 M) ∧ (¬ (l6 ≤ l7) → m_ldI M l5 l7 1 fun x2 => ((x2 = 0 → wX14_ofGateNow_201 κ (wX14_ofGateNow_175 κ f) l5 l6 l7 0 l4 M) ∧ (¬ (x2 = 0) → wX14_ofGateNow_201 κ (wX14_ofGateNow_175 κ f) l5 l6 l7 1 l4 M))))
def wX14_ofGateNow (κ : Int32 → mM → Prop) (l0 : Option Nat) (l1 : Int32) (l2 : Int32) (M : mM) : Prop :=
    m_gR M l0 19 7 fun x1 => m_rc M x1 4 fun b4 => wJx4a65c_get_915e3 (fun x2 M3 => m_cast M3 x2 15 (((l2 = 0 → m_gI M3 x2 15 0 fun x6 => κ x6 M3) ∧ (¬ l2 = 0 → ((l2 = 1 → m_gI M3 x2 15 1 fun x8 => κ x8 M3) ∧ (¬ l2 = 1 → ((l2 = 2 → m_gI M3 l0 19 2 fun x10 => m_rc M3 x2 15 fun b13 => wX10_isOpen (fun x11 M12 => ((x11 = 0 → κ 0 M12) ∧ (¬ (x11 = 0) → κ 1 M12))) (some b13) x10 M3) ∧ (¬ l2 = 2 → ((l2 = 3 → m_gI M3 x2 15 4 fun x16 => κ x16 M3) ∧ (¬ l2 = 3 → ((l2 = 4 → m_gI M3 x2 15 5 fun x18 => κ x18 M3) ∧ (¬ l2 = 4 → ((l2 = 5 → m_rc M3 x2 15 fun b22 => wX10_dozes (fun x20 M21 => ((x20 = 0 → κ 0 M21) ∧ (¬ (x20 = 0) → κ 1 M21))) (some b22) M3) ∧ (¬ l2 = 5 → ((l2 = 6 → m_gR M3 x2 15 6 fun x25 => m_rc M3 x25 4 fun b28 => wJx4a65c_size_8abf5 (fun x26 M27 => κ x26 M27) (some b28) M3) ∧ (¬ l2 = 6 → ((l2 = 7 → m_gR M3 x2 15 6 fun x30 => m_rc M3 x30 4 fun b33 => wJx4a65c_isEmpty_aae02 (fun x31 M32 => ((x31 = 0 → m_gR M32 x2 15 6 fun x35 => m_rc M32 x35 4 fun b38 => wJx4a65c_get_915e3 (fun x36 M37 => m_cast M37 x36 2 (m_rc M37 x36 2 fun b41 => wJ6_intValue_8abf5 (fun x39 M40 => κ x39 M40) (some b41) M37)) (some b38) 0 M32) ∧ (¬ (x31 = 0) → κ (-1) M32))) (some b33) M3) ∧ (¬ l2 = 7 → ((l2 = 8 → m_rc M3 l0 19 fun b45 => wX14_hiddenWorth (fun x43 M44 => κ x43 M44) (some b45) x2 M3) ∧ (¬ l2 = 8 → m_gR M3 x2 15 7 fun x46 => m_len M3 x46 fun x47 => ∃ u : Nat, wX14_ofGateNow_175 κ u 0 x46 x47 0 M3)))))))))))))))))))) (some b4) l1 M
def wX14_ofGate (κ : Int32 → mM → Prop) (l0 : Option Nat) (l1 : Int32) (l2 : Int32) (M : mM) : Prop :=
    m_p M l0 19 0 (.int 0) fun M1 => m_rc M1 l0 19 fun b4 => wX14_isGate (fun x2 M3 => ((x2 = 0 → m_rc M3 l0 19 fun b17 => wX14_refuse (fun x15 M16 => κ x15 M16) (some b17) 1 M3) ∧ (¬ (x2 = 0) → wX14_is (fun x6 M7 => ((x6 = 0 → m_rc M7 l0 19 fun b11 => wX14_refuse (fun x9 M10 => κ x9 M10) (some b11) 2 M7) ∧ (¬ (x6 = 0) → m_rc M7 l0 19 fun b14 => wX14_ofGateNow (fun x12 M13 => κ x12 M13) (some b14) l1 l2 M7))) l2 0 9 M3))) (some b4) l1 M1
def wX14_ring_199 (κ : Int32 → mM → Prop) (R6 : Option Nat → Int32 → Int32 → mM → Prop) (R15 : Option Nat → Int32 → Int32 → Int32 → mM → Prop) (l0 : Option Nat) (l2 : Int32) (l3 : Int32) (l4 : Int32) (M : mM) : Prop :=
    R15 l0 l2 l3 (l4 + 3) M
def wX14_ring_193 (κ : Int32 → mM → Prop) (R6 : Option Nat → Int32 → Int32 → mM → Prop) (R15 : Option Nat → Int32 → Int32 → Int32 → mM → Prop) (R55 : Option Nat → Int32 → Int32 → Int32 → Int32 → mM → Prop) (l0 : Option Nat) (l2 : Int32) (l3 : Int32) (l4 : Int32) (l5 : Int32) (M : mM) : Prop :=
    R55 l0 l2 l3 l4 (l5 + 3) M
def wX14_ring_55 (κ : Int32 → mM → Prop) (R6 : Option Nat → Int32 → Int32 → mM → Prop) (R15 : Option Nat → Int32 → Int32 → Int32 → mM → Prop) : Nat → Option Nat → Int32 → Int32 → Int32 → Int32 → mM → Prop
  | 0 => fun _ _ _ _ _ _ => False
  | f + 1 => fun (l0 : Option Nat) (l2 : Int32) (l3 : Int32) (l4 : Int32) (l5 : Int32) (M : mM) =>
    m_gR M l0 19 10 fun x1 => m_rc M x1 4 fun b4 => wJx4a65c_size_8abf5 (fun x2 M3 => ((x2 ≤ l5 → wX14_ring_199 κ R6 R15 l0 l2 l3 l4 M3) ∧ (¬ (x2 ≤ l5) → m_gR M3 l0 19 10 fun x6 => m_rc M3 x6 4 fun b9 => wJx4a65c_get_915e3 (fun x7 M8 => m_cast M8 x7 2 (m_rc M8 x7 2 fun b12 => wJ6_intValue_8abf5 (fun x10 M11 => m_gR M11 l0 19 10 fun x13 => m_rc M11 x13 4 fun b16 => wJx4a65c_get_915e3 (fun x14 M15 => m_cast M15 x14 2 (m_rc M15 x14 2 fun b19 => wJ6_intValue_8abf5 (fun x17 M18 => m_gR M18 l0 19 10 fun x20 => m_rc M18 x20 4 fun b23 => wJx4a65c_get_915e3 (fun x21 M22 => m_cast M22 x21 2 (m_rc M22 x21 2 fun b26 => wJ6_intValue_8abf5 (fun x24 M25 => m_gR M25 l0 19 10 fun x27 => m_rc M25 x27 4 fun b30 => wJx4a65c_get_915e3 (fun x28 M29 => m_cast M29 x28 2 (m_rc M29 x28 2 fun b33 => wJ6_intValue_8abf5 (fun x31 M32 => ((((m_shr l2 x10) &&& 1) = 1 → wX14_ring_193 κ R6 R15 (wX14_ring_55 κ R6 R15 f) l0 l2 l3 l4 l5 M32) ∧ (¬ (((m_shr l2 x10) &&& 1) = 1) → m_gR M32 l0 19 10 fun x35 => m_rc M32 x35 4 fun b38 => wJx4a65c_get_915e3 (fun x36 M37 => m_cast M37 x36 2 (m_rc M37 x36 2 fun b41 => wJ6_intValue_8abf5 (fun x39 M40 => ((x39 = x17 → (((m_abs (x24 - x31)) ≤ 2 → wX14_ring_193 κ R6 R15 (wX14_ring_55 κ R6 R15 f) l0 (l2 ||| (m_shl 1 x10)) 1 l4 l5 M40) ∧ (¬ ((m_abs (x24 - x31)) ≤ 2) → wX14_ring_193 κ R6 R15 (wX14_ring_55 κ R6 R15 f) l0 l2 l3 l4 l5 M40))) ∧ (¬ (x39 = x17) → wX14_ring_193 κ R6 R15 (wX14_ring_55 κ R6 R15 f) l0 l2 l3 l4 l5 M40))) (some b41) M37)) (some b38) (l5 + 1) M32))) (some b33) M29)) (some b30) (l5 + 2) M25) (some b26) M22)) (some b23) (l4 + 2) M18) (some b19) M15)) (some b16) (l4 + 1) M11) (some b12) M8)) (some b9) l5 M3))) (some b4) M
def wX14_ring_15 (κ : Int32 → mM → Prop) (R6 : Option Nat → Int32 → Int32 → mM → Prop) : Nat → Option Nat → Int32 → Int32 → Int32 → mM → Prop
  | 0 => fun _ _ _ _ _ => False
  | f + 1 => fun (l0 : Option Nat) (l2 : Int32) (l3 : Int32) (l4 : Int32) (M : mM) =>
    m_gR M l0 19 10 fun x1 => m_rc M x1 4 fun b4 => wJx4a65c_size_8abf5 (fun x2 M3 => ((x2 ≤ l4 → R6 l0 l2 l3 M3) ∧ (¬ (x2 ≤ l4) → m_gR M3 l0 19 10 fun x6 => m_rc M3 x6 4 fun b9 => wJx4a65c_get_915e3 (fun x7 M8 => m_cast M8 x7 2 (m_rc M8 x7 2 fun b12 => wJ6_intValue_8abf5 (fun x10 M11 => ((((m_shr l2 x10) &&& 1) = 0 → wX14_ring_199 κ R6 (wX14_ring_15 κ R6 f) l0 l2 l3 l4 M11) ∧ (¬ (((m_shr l2 x10) &&& 1) = 0) → ∃ u : Nat, wX14_ring_55 κ R6 (wX14_ring_15 κ R6 f) u l0 l2 l3 l4 0 M11))) (some b12) M8)) (some b9) l4 M3))) (some b4) M
def wX14_ring_6 (κ : Int32 → mM → Prop) : Nat → Option Nat → Int32 → Int32 → mM → Prop
  | 0 => fun _ _ _ _ => False
  | f + 1 => fun (l0 : Option Nat) (l2 : Int32) (l3 : Int32) (M : mM) =>
    ((l3 = 0 → κ l2 M) ∧ (¬ (l3 = 0) → ∃ u : Nat, wX14_ring_15 κ (wX14_ring_6 κ f) u l0 l2 0 0 M))
def wX14_ring (κ : Int32 → mM → Prop) (l0 : Option Nat) (l1 : Int32) (M : mM) : Prop :=
    ∃ u : Nat, wX14_ring_6 κ u l0 (m_shl 1 l1) 1 M
def wX14_ofSleeperNow_173 (κ : Int32 → mM → Prop) (R135 : Option Nat → Int32 → Int32 → Int32 → mM → Prop) (l0 : Option Nat) (l1 : Int32) (l5 : Int32) (s0 : Int32) (s1 : Int32) (M : mM) : Prop :=
    R135 l0 l1 (s1 + s0) (l5 + 3) M
def wX14_ofSleeperNow_135 (κ : Int32 → mM → Prop) : Nat → Option Nat → Int32 → Int32 → Int32 → mM → Prop
  | 0 => fun _ _ _ _ _ => False
  | f + 1 => fun (l0 : Option Nat) (l1 : Int32) (l4 : Int32) (l5 : Int32) (M : mM) =>
    m_gR M l0 19 10 fun x1 => m_rc M x1 4 fun b4 => wJx4a65c_size_8abf5 (fun x2 M3 => ((x2 ≤ l5 → κ l4 M3) ∧ (¬ (x2 ≤ l5) → m_gR M3 l0 19 10 fun x6 => m_rc M3 x6 4 fun b9 => wJx4a65c_get_915e3 (fun x7 M8 => m_cast M8 x7 2 (m_rc M8 x7 2 fun b12 => wJ6_intValue_8abf5 (fun x10 M11 => ((x10 = l1 → wX14_ofSleeperNow_173 κ (wX14_ofSleeperNow_135 κ f) l0 l1 l5 1 l4 M11) ∧ (¬ (x10 = l1) → wX14_ofSleeperNow_173 κ (wX14_ofSleeperNow_135 κ f) l0 l1 l5 0 l4 M11))) (some b12) M8)) (some b9) l5 M3))) (some b4) M
def wX14_ofSleeperNow (κ : Int32 → mM → Prop) (l0 : Option Nat) (l1 : Int32) (l2 : Int32) (M : mM) : Prop :=
    m_gR M l0 19 8 fun x1 => m_rc M x1 4 fun b4 => wJx4a65c_get_915e3 (fun x2 M3 => m_cast M3 x2 18 (((l2 = 0 → m_gI M3 x2 18 0 fun x6 => κ x6 M3) ∧ (¬ l2 = 0 → ((l2 = 1 → m_gI M3 x2 18 2 fun x8 => κ x8 M3) ∧ (¬ l2 = 1 → ((l2 = 2 → m_gI M3 x2 18 3 fun x10 => κ x10 M3) ∧ (¬ l2 = 2 → ((l2 = 3 → m_gI M3 x2 18 4 fun x12 => κ x12 M3) ∧ (¬ l2 = 3 → ((l2 = 4 → m_gI M3 x2 18 4 fun x14 => ((x14 = (-1) → κ (-1) M3) ∧ (¬ (x14 = (-1)) → m_gR M3 l0 19 7 fun x16 => m_gI M3 x2 18 4 fun x17 => m_rc M3 x16 4 fun b20 => wJx4a65c_get_915e3 (fun x18 M19 => m_cast M19 x18 15 (m_rc M19 x18 15 fun b23 => wX10_place (fun x21 M22 => κ x21 M22) (some b23) l1 M19)) (some b20) x17 M3))) ∧ (¬ l2 = 4 → ((l2 = 5 → m_rc M3 l0 19 fun b27 => wX14_head (fun x25 M26 => κ x25 M26) (some b27) l1 M3) ∧ (¬ l2 = 5 → ((l2 = 6 → m_gI M3 x2 18 8 fun x29 => κ x29 M3) ∧ (¬ l2 = 6 → ((l2 = 7 → m_rc M3 l0 19 fun b33 => wX14_ring (fun x31 M32 => κ x31 M32) (some b33) l1 M3) ∧ (¬ l2 = 7 → ∃ u : Nat, wX14_ofSleeperNow_135 κ u l0 l1 0 0 M3)))))))))))))))))) (some b4) l1 M
def wX14_ofSleeper (κ : Int32 → mM → Prop) (l0 : Option Nat) (l1 : Int32) (l2 : Int32) (M : mM) : Prop :=
    m_p M l0 19 0 (.int 0) fun M1 => m_rc M1 l0 19 fun b4 => wX14_isSleeper (fun x2 M3 => ((x2 = 0 → m_rc M3 l0 19 fun b17 => wX14_refuse (fun x15 M16 => κ x15 M16) (some b17) 1 M3) ∧ (¬ (x2 = 0) → wX14_is (fun x6 M7 => ((x6 = 0 → m_rc M7 l0 19 fun b11 => wX14_refuse (fun x9 M10 => κ x9 M10) (some b11) 2 M7) ∧ (¬ (x6 = 0) → m_rc M7 l0 19 fun b14 => wX14_ofSleeperNow (fun x12 M13 => κ x12 M13) (some b14) l1 l2 M7))) l2 0 8 M3))) (some b4) l1 M1
def wX14_ofPartNow (κ : Int32 → mM → Prop) (l0 : Option Nat) (l1 : Int32) (l2 : Int32) (M : mM) : Prop :=
    m_gR M l0 19 9 fun x1 => m_rc M x1 4 fun b4 => wJx4a65c_get_915e3 (fun x2 M3 => m_cast M3 x2 17 (((l2 = 0 → m_gI M3 x2 17 0 fun x6 => κ x6 M3) ∧ (¬ l2 = 0 → ((l2 = 1 → m_gI M3 x2 17 1 fun x8 => κ x8 M3) ∧ (¬ l2 = 1 → ((l2 = 2 → m_gI M3 x2 17 2 fun x10 => κ x10 M3) ∧ (¬ l2 = 2 → ((l2 = 3 → m_gI M3 x2 17 3 fun x12 => κ x12 M3) ∧ (¬ l2 = 3 → ((l2 = 4 → m_rc M3 l0 19 fun b16 => wX14_landOf (fun x14 M15 => κ x14 M15) (some b16) x2 M3) ∧ (¬ l2 = 4 → m_gI M3 x2 17 4 fun x17 => ((100 ≤ x17 → κ (-1) M3) ∧ (¬ (100 ≤ x17) → m_gI M3 x2 17 4 fun x19 => κ x19 M3)))))))))))))) (some b4) l1 M
def wX14_ofPart (κ : Int32 → mM → Prop) (l0 : Option Nat) (l1 : Int32) (l2 : Int32) (M : mM) : Prop :=
    m_p M l0 19 0 (.int 0) fun M1 => m_rc M1 l0 19 fun b4 => wX14_isPart (fun x2 M3 => ((x2 = 0 → m_rc M3 l0 19 fun b17 => wX14_refuse (fun x15 M16 => κ x15 M16) (some b17) 1 M3) ∧ (¬ (x2 = 0) → wX14_is (fun x6 M7 => ((x6 = 0 → m_rc M7 l0 19 fun b11 => wX14_refuse (fun x9 M10 => κ x9 M10) (some b11) 2 M7) ∧ (¬ (x6 = 0) → m_rc M7 l0 19 fun b14 => wX14_ofPartNow (fun x12 M13 => κ x12 M13) (some b14) l1 l2 M7))) l2 0 5 M3))) (some b4) l1 M1
def wX14_isGood_22 (κ : Int32 → mM → Prop) (l0 : Option Nat) (l1 : Int32) (l2 : Int32) (s0 : Int32) (s1 : Option Nat) (M : mM) : Prop :=
    m_p M s1 19 0 (.int s0) fun M1 => m_gI M1 l0 19 0 fun x2 => ((x2 = 0 → m_rc M1 l0 19 fun b6 => wX14_isGoodNow (fun x4 M5 => ((x4 = 0 → κ 0 M5) ∧ (¬ (x4 = 0) → κ 1 M5))) (some b6) l1 l2 M1) ∧ (¬ (x2 = 0) → κ 0 M1))
def wX14_isGood_21 (κ : Int32 → mM → Prop) (l0 : Option Nat) (l1 : Int32) (l2 : Int32) (s0 : Option Nat) (M : mM) : Prop :=
    wX14_isGood_22 κ l0 l1 l2 1 s0 M
def wX14_isGood (κ : Int32 → mM → Prop) (l0 : Option Nat) (l1 : Int32) (l2 : Int32) (M : mM) : Prop :=
    m_rc M l0 19 fun b3 => wX14_isSleeper (fun x1 M2 => ((x1 = 0 → wX14_isGood_21 κ l0 l1 l2 l0 M2) ∧ (¬ (x1 = 0) → m_rc M2 l0 19 fun b7 => wX14_isGate (fun x5 M6 => ((x5 = 0 → wX14_isGood_21 κ l0 l1 l2 l0 M6) ∧ (¬ (x5 = 0) → wX14_isGood_22 κ l0 l1 l2 0 l0 M6))) (some b7) l2 M2))) (some b3) l1 M
def wX14_nightNow_149 (κ : Int32 → mM → Prop) (R114 : Int32 → Option Nat → mM → Prop) (l3 : Option Nat) (s0 : Int32) (s1 : Int32) (M : mM) : Prop :=
    R114 (s1 + s0) l3 M
def wX14_nightNow_114 (κ : Int32 → mM → Prop) : Nat → Int32 → Option Nat → mM → Prop
  | 0 => fun _ _ _ => False
  | f + 1 => fun (l2 : Int32) (l3 : Option Nat) (M : mM) =>
    m_rc M l3 3 fun b1 => wJx35411_hasNext_aae02 (fun x2 M3 => ((x2 = 0 → κ l2 M3) ∧ (¬ (x2 = 0) → m_rc M3 l3 3 fun b5 => wJx35411_next_0502b (fun x6 M7 => m_cast M7 x6 18 (m_gI M7 x6 18 3 fun x8 => ((x8 = 2 → wX14_nightNow_149 κ (wX14_nightNow_114 κ f) l3 1 l2 M7) ∧ (¬ (x8 = 2) → wX14_nightNow_149 κ (wX14_nightNow_114 κ f) l3 0 l2 M7)))) (some b5) M3))) (some b1) M
def wX14_nightNow_209 (κ : Int32 → mM → Prop) (R172 : Int32 → Int32 → Option Nat → mM → Prop) (l1 : Int32) (l3 : Option Nat) (s0 : Int32) (s1 : Int32) (M : mM) : Prop :=
    R172 l1 (s1 + s0) l3 M
def wX14_nightNow_172 (κ : Int32 → mM → Prop) : Nat → Int32 → Int32 → Option Nat → mM → Prop
  | 0 => fun _ _ _ _ => False
  | f + 1 => fun (l1 : Int32) (l2 : Int32) (l3 : Option Nat) (M : mM) =>
    m_rc M l3 3 fun b1 => wJx35411_hasNext_aae02 (fun x2 M3 => ((x2 = 0 → κ l2 M3) ∧ (¬ (x2 = 0) → m_rc M3 l3 3 fun b5 => wJx35411_next_0502b (fun x6 M7 => m_cast M7 x6 17 (m_gI M7 x6 17 3 fun x8 => ((x8 = (l1 - 5) → wX14_nightNow_209 κ (wX14_nightNow_172 κ f) l1 l3 1 l2 M7) ∧ (¬ (x8 = (l1 - 5)) → wX14_nightNow_209 κ (wX14_nightNow_172 κ f) l1 l3 0 l2 M7)))) (some b5) M3))) (some b1) M
def wX14_nightNow_261 (κ : Int32 → mM → Prop) (R224 : Int32 → Option Nat → mM → Prop) (l3 : Option Nat) (s0 : Int32) (s1 : Int32) (M : mM) : Prop :=
    R224 (s1 + s0) l3 M
def wX14_nightNow_224 (κ : Int32 → mM → Prop) : Nat → Int32 → Option Nat → mM → Prop
  | 0 => fun _ _ _ => False
  | f + 1 => fun (l2 : Int32) (l3 : Option Nat) (M : mM) =>
    m_rc M l3 3 fun b1 => wJx35411_hasNext_aae02 (fun x2 M3 => ((x2 = 0 → κ l2 M3) ∧ (¬ (x2 = 0) → m_rc M3 l3 3 fun b5 => wJx35411_next_0502b (fun x6 M7 => m_cast M7 x6 17 (m_gI M7 x6 17 4 fun x8 => ((x8 = 999 → wX14_nightNow_261 κ (wX14_nightNow_224 κ f) l3 1 l2 M7) ∧ (¬ (x8 = 999) → wX14_nightNow_261 κ (wX14_nightNow_224 κ f) l3 0 l2 M7)))) (some b5) M3))) (some b1) M
def wX14_nightNow_300 (κ : Int32 → mM → Prop) : Nat → Int32 → Option Nat → Int32 → Int32 → mM → Prop
  | 0 => fun _ _ _ _ _ => False
  | f + 1 => fun (l2 : Int32) (l3 : Option Nat) (l4 : Int32) (l5 : Int32) (M : mM) =>
    ((l4 ≤ l5 → κ l2 M) ∧ (¬ (l4 ≤ l5) → m_ldR M l3 l5 4 fun x2 => m_gI M x2 16 4 fun x3 => (wX14_nightNow_300 κ f) (l2 + x3) l3 l4 (l5 + 1) M))
def wX14_nightNow_341 (κ : Int32 → mM → Prop) : Nat → Int32 → Option Nat → Int32 → Int32 → mM → Prop
  | 0 => fun _ _ _ _ _ => False
  | f + 1 => fun (l2 : Int32) (l3 : Option Nat) (l4 : Int32) (l5 : Int32) (M : mM) =>
    ((l4 ≤ l5 → κ l2 M) ∧ (¬ (l4 ≤ l5) → m_ldR M l3 l5 4 fun x2 => m_gI M x2 16 5 fun x3 => (wX14_nightNow_341 κ f) (l2 + x3) l3 l4 (l5 + 1) M))
def wX14_nightNow (κ : Int32 → mM → Prop) (l0 : Option Nat) (l1 : Int32) (M : mM) : Prop :=
    ((l1 = 0 → m_gI M l0 19 1 fun x2 => κ x2 M) ∧ (¬ l1 = 0 → ((l1 = 1 → m_gI M l0 19 2 fun x4 => κ x4 M) ∧ (¬ l1 = 1 → ((l1 = 2 → m_gR M l0 19 7 fun x6 => m_rc M x6 4 fun b9 => wJx4a65c_size_8abf5 (fun x7 M8 => κ x7 M8) (some b9) M) ∧ (¬ l1 = 2 → ((l1 = 3 → m_gR M l0 19 8 fun x11 => m_rc M x11 4 fun b14 => wJx4a65c_size_8abf5 (fun x12 M13 => κ x12 M13) (some b14) M) ∧ (¬ l1 = 3 → ((l1 = 4 → m_gR M l0 19 8 fun x16 => m_rc M x16 4 fun b19 => wJx4a65c_iterator_32c93 (fun x17 M18 => ∃ u : Nat, wX14_nightNow_114 κ u 0 x17 M18) (some b19) M) ∧ (¬ l1 = 4 → ((l1 = 5 → m_gR M l0 19 9 fun x21 => m_rc M x21 4 fun b24 => wJx4a65c_size_8abf5 (fun x22 M23 => κ x22 M23) (some b24) M) ∧ (¬ l1 = 5 → ((l1 = 6 → m_gR M l0 19 9 fun x26 => m_rc M x26 4 fun b29 => wJx4a65c_iterator_32c93 (fun x27 M28 => ∃ u : Nat, wX14_nightNow_172 κ u l1 0 x27 M28) (some b29) M) ∧ (¬ l1 = 6 → ((l1 = 7 → m_gR M l0 19 9 fun x31 => m_rc M x31 4 fun b34 => wJx4a65c_iterator_32c93 (fun x32 M33 => ∃ u : Nat, wX14_nightNow_172 κ u l1 0 x32 M33) (some b34) M) ∧ (¬ l1 = 7 → ((l1 = 8 → m_gR M l0 19 9 fun x36 => m_rc M x36 4 fun b39 => wJx4a65c_iterator_32c93 (fun x37 M38 => ∃ u : Nat, wX14_nightNow_172 κ u l1 0 x37 M38) (some b39) M) ∧ (¬ l1 = 8 → ((l1 = 9 → m_gR M l0 19 9 fun x41 => m_rc M x41 4 fun b44 => wJx4a65c_iterator_32c93 (fun x42 M43 => ∃ u : Nat, wX14_nightNow_172 κ u l1 0 x42 M43) (some b44) M) ∧ (¬ l1 = 9 → ((l1 = 10 → m_gR M l0 19 9 fun x46 => m_rc M x46 4 fun b49 => wJx4a65c_iterator_32c93 (fun x47 M48 => ∃ u : Nat, wX14_nightNow_172 κ u l1 0 x47 M48) (some b49) M) ∧ (¬ l1 = 10 → ((l1 = 11 → m_gR M l0 19 9 fun x51 => m_rc M x51 4 fun b54 => wJx4a65c_iterator_32c93 (fun x52 M53 => ∃ u : Nat, wX14_nightNow_224 κ u 0 x52 M53) (some b54) M) ∧ (¬ l1 = 11 → ((l1 = 12 → m_gR M l0 19 10 fun x56 => m_rc M x56 4 fun b59 => wJx4a65c_size_8abf5 (fun x57 M58 => κ (x57 / 3) M58) (some b59) M) ∧ (¬ l1 = 12 → ((l1 = 13 → m_gI M l0 19 4 fun x61 => κ x61 M) ∧ (¬ l1 = 13 → ((l1 = 14 → m_gI M l0 19 5 fun x63 => κ x63 M) ∧ (¬ l1 = 14 → ((l1 = 15 → m_gR M l0 19 6 fun x65 => m_len M x65 fun x66 => ∃ u : Nat, wX14_nightNow_300 κ u 0 x65 x66 0 M) ∧ (¬ l1 = 15 → m_gR M l0 19 6 fun x67 => m_len M x67 fun x68 => ∃ u : Nat, wX14_nightNow_341 κ u 0 x67 x68 0 M))))))))))))))))))))))))))))))))
def wX14_night (κ : Int32 → mM → Prop) (l0 : Option Nat) (l1 : Int32) (M : mM) : Prop :=
    m_p M l0 19 0 (.int 0) fun M1 => wX14_is (fun x2 M3 => ((x2 = 0 → m_rc M3 l0 19 fun b7 => wX14_refuse (fun x5 M6 => κ x5 M6) (some b7) 1 M3) ∧ (¬ (x2 = 0) → m_rc M3 l0 19 fun b10 => wX14_nightNow (fun x8 M9 => κ x8 M9) (some b10) l1 M3))) l1 0 16 M1
def wX14_wayNow_129 (κ : Int32 → mM → Prop) (R7 : Option Nat → Int32 → Int32 → Int32 → mM → Prop) (R32 : Option Nat → Int32 → Int32 → Int32 → Int32 → Int32 → mM → Prop) (l0 : Option Nat) (l2 : Int32) (l3 : Int32) (l4 : Int32) (l5 : Int32) (l6 : Int32) (M : mM) : Prop :=
    R32 l0 l2 l3 l4 l5 (l6 + 1) M
def wX14_wayNow_104 (κ : Int32 → mM → Prop) (R7 : Option Nat → Int32 → Int32 → Int32 → mM → Prop) (R32 : Option Nat → Int32 → Int32 → Int32 → Int32 → Int32 → mM → Prop) (l0 : Option Nat) (l2 : Int32) (l3 : Int32) (l4 : Int32) (l5 : Int32) (l6 : Int32) (l7 : Option Nat) (M : mM) : Prop :=
    m_gI M l7 15 1 fun x1 => ((((m_shr l3 x1) &&& 1) = 1 → m_gI M l7 15 0 fun x3 => wX14_wayNow_129 κ R7 R32 l0 l2 l3 l4 (l5 ||| (m_shl 1 x3)) l6 M) ∧ (¬ (((m_shr l3 x1) &&& 1) = 1) → wX14_wayNow_129 κ R7 R32 l0 l2 l3 l4 l5 l6 M))
def wX14_wayNow_32 (κ : Int32 → mM → Prop) (R7 : Option Nat → Int32 → Int32 → Int32 → mM → Prop) : Nat → Option Nat → Int32 → Int32 → Int32 → Int32 → Int32 → mM → Prop
  | 0 => fun _ _ _ _ _ _ _ => False
  | f + 1 => fun (l0 : Option Nat) (l2 : Int32) (l3 : Int32) (l4 : Int32) (l5 : Int32) (l6 : Int32) (M : mM) =>
    m_gR M l0 19 7 fun x1 => m_rc M x1 4 fun b4 => wJx4a65c_size_8abf5 (fun x2 M3 => ((x2 ≤ l6 → R7 l0 l2 l5 (l4 + 1) M3) ∧ (¬ (x2 ≤ l6) → m_gR M3 l0 19 7 fun x6 => m_rc M3 x6 4 fun b9 => wJx4a65c_get_915e3 (fun x7 M8 => m_cast M8 x7 15 (m_gI M8 l0 19 2 fun x10 => m_rc M8 x7 15 fun b13 => wX10_isOpen (fun x11 M12 => ((x11 = 0 → wX14_wayNow_129 κ R7 (wX14_wayNow_32 κ R7 f) l0 l2 l3 l4 l5 l6 M12) ∧ (¬ (x11 = 0) → m_gI M12 x7 15 0 fun x15 => ((((m_shr l3 x15) &&& 1) = 1 → m_gI M12 x7 15 1 fun x17 => wX14_wayNow_104 κ R7 (wX14_wayNow_32 κ R7 f) l0 l2 l3 l4 (l5 ||| (m_shl 1 x17)) l6 x7 M12) ∧ (¬ (((m_shr l3 x15) &&& 1) = 1) → wX14_wayNow_104 κ R7 (wX14_wayNow_32 κ R7 f) l0 l2 l3 l4 l5 l6 x7 M12))))) (some b13) (m_rem (x10 + l4) 24) M8)) (some b9) l6 M3))) (some b4) M
def wX14_wayNow_7 (κ : Int32 → mM → Prop) : Nat → Option Nat → Int32 → Int32 → Int32 → mM → Prop
  | 0 => fun _ _ _ _ _ => False
  | f + 1 => fun (l0 : Option Nat) (l2 : Int32) (l3 : Int32) (l4 : Int32) (M : mM) =>
    ((72 < l4 → κ (-1) M) ∧ (¬ (72 < l4) → ((((m_shr l3 l2) &&& 1) = 1 → κ l4 M) ∧ (¬ (((m_shr l3 l2) &&& 1) = 1) → ∃ u : Nat, wX14_wayNow_32 κ (wX14_wayNow_7 κ f) u l0 l2 l3 l4 l3 0 M))))
def wX14_wayNow (κ : Int32 → mM → Prop) (l0 : Option Nat) (l1 : Int32) (l2 : Int32) (M : mM) : Prop :=
    ∃ u : Nat, wX14_wayNow_7 κ u l0 l2 (m_shl 1 l1) 0 M
def wX14_way_30 (κ : Int32 → mM → Prop) (l0 : Option Nat) (M : mM) : Prop :=
    m_rc M l0 19 fun b3 => wX14_refuse (fun x1 M2 => κ x1 M2) (some b3) 1 M
def wX14_way (κ : Int32 → mM → Prop) (l0 : Option Nat) (l1 : Int32) (l2 : Int32) (M : mM) : Prop :=
    m_p M l0 19 0 (.int 0) fun M1 => m_rc M1 l0 19 fun b4 => wX14_isLand (fun x2 M3 => ((x2 = 0 → wX14_way_30 κ l0 M3) ∧ (¬ (x2 = 0) → m_rc M3 l0 19 fun b8 => wX14_isLand (fun x6 M7 => ((x6 = 0 → wX14_way_30 κ l0 M7) ∧ (¬ (x6 = 0) → m_rc M7 l0 19 fun b12 => wX14_wayNow (fun x10 M11 => κ x10 M11) (some b12) l1 l2 M7))) (some b8) l2 M3))) (some b4) l1 M1
def wX14_catches_60 (κ : Option Nat → mM → Prop) (R27 : Option Nat → Int32 → Option Nat → Int32 → mM → Prop) (R51 : Option Nat → Int32 → Option Nat → Int32 → Int32 → Int32 → mM → Prop) : Nat → Option Nat → Int32 → Option Nat → Int32 → Int32 → Int32 → Int32 → mM → Prop
  | 0 => fun _ _ _ _ _ _ _ _ => False
  | f + 1 => fun (l0 : Option Nat) (l1 : Int32) (l2 : Option Nat) (l3 : Int32) (l4 : Int32) (l5 : Int32) (l6 : Int32) (M : mM) =>
    (((m_min 10 l5) < l6 → R51 l0 l1 l2 l3 l4 (l5 + 1) M) ∧ (¬ ((m_min 10 l5) < l6) → m_ldI M l2 ((l3 * l1) + l5) 0 fun x2 => m_ldI M l2 ((((l3 + 1) * l1) + l5) - l6) 0 fun x3 => m_stI M l2 ((l3 * l1) + l5) (m_max x2 (((l4 * l6) / 10) + x3)) fun M4 => (wX14_catches_60 κ R27 R51 f) l0 l1 l2 l3 l4 l5 (l6 + 1) M4))
def wX14_catches_51 (κ : Option Nat → mM → Prop) (R27 : Option Nat → Int32 → Option Nat → Int32 → mM → Prop) : Nat → Option Nat → Int32 → Option Nat → Int32 → Int32 → Int32 → mM → Prop
  | 0 => fun _ _ _ _ _ _ _ => False
  | f + 1 => fun (l0 : Option Nat) (l1 : Int32) (l2 : Option Nat) (l3 : Int32) (l4 : Int32) (l5 : Int32) (M : mM) =>
    ((l1 ≤ l5 → R27 l0 l1 l2 (l3 + (-1)) M) ∧ (¬ (l1 ≤ l5) → ∃ u : Nat, wX14_catches_60 κ R27 (wX14_catches_51 κ R27 f) u l0 l1 l2 l3 l4 l5 0 M))
def wX14_catches_27 (κ : Option Nat → mM → Prop) : Nat → Option Nat → Int32 → Option Nat → Int32 → mM → Prop
  | 0 => fun _ _ _ _ _ => False
  | f + 1 => fun (l0 : Option Nat) (l1 : Int32) (l2 : Option Nat) (l3 : Int32) (M : mM) =>
    ((l3 < 0 → κ l2 M) ∧ (¬ (l3 < 0) → m_gR M l0 19 7 fun x2 => m_rc M x2 4 fun b5 => wJx4a65c_get_915e3 (fun x3 M4 => m_cast M4 x3 15 (m_rc M4 l0 19 fun b8 => wX14_hiddenWorth (fun x6 M7 => ∃ u : Nat, wX14_catches_51 κ (wX14_catches_27 κ f) u l0 l1 l2 l3 x6 0 M7) (some b8) x3 M4)) (some b5) l3 M))
def wX14_catches (κ : Option Nat → mM → Prop) (l0 : Option Nat) (M : mM) : Prop :=
    m_gR M l0 19 7 fun x1 => m_rc M x1 4 fun b4 => wJx4a65c_size_8abf5 (fun x2 M3 => m_newI M3 0 ((x2 + 1) * 81) 729 fun q5 M6 => m_gR M6 l0 19 7 fun x7 => m_rc M6 x7 4 fun b10 => wJx4a65c_size_8abf5 (fun x8 M9 => ∃ u : Nat, wX14_catches_27 κ u l0 81 (some q5) (x8 - 1) M9) (some b10) M6) (some b4) M
def wX14_planNow_88 (κ : Int32 → mM → Prop) (R55 : Option Nat → Int32 → Int32 → Option Nat → Int32 → Int32 → Int32 → mM → Prop) : Nat → Option Nat → Int32 → Int32 → Option Nat → Int32 → Int32 → Int32 → Int32 → Int32 → mM → Prop
  | 0 => fun _ _ _ _ _ _ _ _ _ _ => False
  | f + 1 => fun (l0 : Option Nat) (l2 : Int32) (l3 : Int32) (l4 : Option Nat) (l5 : Int32) (l6 : Int32) (l7 : Int32) (l8 : Int32) (l9 : Int32) (M : mM) =>
    m_ldI M l4 ((((l7 + 1) * l3) + l5) - l9) 0 fun x1 => ((l6 ≤ (((l8 * l9) / 10) + x1) → ((l7 = l2 → κ l9 M) ∧ (¬ (l7 = l2) → R55 l0 l2 l3 l4 (l5 - l9) (l6 - ((l8 * l9) / 10)) (l7 + 1) M))) ∧ (¬ (l6 ≤ (((l8 * l9) / 10) + x1)) → (wX14_planNow_88 κ R55 f) l0 l2 l3 l4 l5 l6 l7 l8 (l9 + 1) M))
def wX14_planNow_55 (κ : Int32 → mM → Prop) : Nat → Option Nat → Int32 → Int32 → Option Nat → Int32 → Int32 → Int32 → mM → Prop
  | 0 => fun _ _ _ _ _ _ _ _ => False
  | f + 1 => fun (l0 : Option Nat) (l2 : Int32) (l3 : Int32) (l4 : Option Nat) (l5 : Int32) (l6 : Int32) (l7 : Int32) (M : mM) =>
    m_gR M l0 19 7 fun x1 => m_rc M x1 4 fun b4 => wJx4a65c_size_8abf5 (fun x2 M3 => ((x2 ≤ l7 → κ (-1) M3) ∧ (¬ (x2 ≤ l7) → m_gR M3 l0 19 7 fun x6 => m_rc M3 x6 4 fun b9 => wJx4a65c_get_915e3 (fun x7 M8 => m_cast M8 x7 15 (m_rc M8 l0 19 fun b12 => wX14_hiddenWorth (fun x10 M11 => ∃ u : Nat, wX14_planNow_88 κ (wX14_planNow_55 κ f) u l0 l2 l3 l4 l5 l6 l7 x10 0 M11) (some b12) x7 M8)) (some b9) l7 M3))) (some b4) M
def wX14_planNow_33 (κ : Int32 → mM → Prop) (l0 : Option Nat) (l1 : Int32) (l2 : Int32) (l3 : Int32) (l4 : Option Nat) (l5 : Int32) (M : mM) : Prop :=
    ((l5 = l3 → κ (-1) M) ∧ (¬ (l5 = l3) → ((l2 = (-1) → κ l5 M) ∧ (¬ (l2 = (-1)) → ∃ u : Nat, wX14_planNow_55 κ u l0 l2 l3 l4 l5 l1 0 M))))
def wX14_planNow_12 (κ : Int32 → mM → Prop) : Nat → Option Nat → Int32 → Int32 → Int32 → Option Nat → Int32 → mM → Prop
  | 0 => fun _ _ _ _ _ _ _ => False
  | f + 1 => fun (l0 : Option Nat) (l1 : Int32) (l2 : Int32) (l3 : Int32) (l4 : Option Nat) (l5 : Int32) (M : mM) =>
    ((l3 ≤ l5 → wX14_planNow_33 κ l0 l1 l2 l3 l4 l5 M) ∧ (¬ (l3 ≤ l5) → m_ldI M l4 l5 0 fun x2 => ((l1 ≤ x2 → wX14_planNow_33 κ l0 l1 l2 l3 l4 l5 M) ∧ (¬ (l1 ≤ x2) → (wX14_planNow_12 κ f) l0 l1 l2 l3 l4 (l5 + 1) M))))
def wX14_planNow (κ : Int32 → mM → Prop) (l0 : Option Nat) (l1 : Int32) (l2 : Int32) (M : mM) : Prop :=
    m_rc M l0 19 fun b3 => wX14_catches (fun x1 M2 => ∃ u : Nat, wX14_planNow_12 κ u l0 l1 l2 81 x1 0 M2) (some b3) M
def wX14_plan_24 (κ : Int32 → mM → Prop) (l0 : Option Nat) (l1 : Int32) (l2 : Int32) (M : mM) : Prop :=
    wX14_is (fun x1 M2 => ((x1 = 0 → m_rc M2 l0 19 fun b6 => wX14_refuse (fun x4 M5 => κ x4 M5) (some b6) 2 M2) ∧ (¬ (x1 = 0) → m_rc M2 l0 19 fun b9 => wX14_planNow (fun x7 M8 => κ x7 M8) (some b9) l1 l2 M2))) l1 0 2000 M
def wX14_plan (κ : Int32 → mM → Prop) (l0 : Option Nat) (l1 : Int32) (l2 : Int32) (M : mM) : Prop :=
    m_p M l0 19 0 (.int 0) fun M1 => ((l2 = (-1) → wX14_plan_24 κ l0 l1 l2 M1) ∧ (¬ (l2 = (-1)) → m_rc M1 l0 19 fun b5 => wX14_isGate (fun x3 M4 => ((x3 = 0 → m_rc M4 l0 19 fun b9 => wX14_refuse (fun x7 M8 => κ x7 M8) (some b9) 1 M4) ∧ (¬ (x3 = 0) → wX14_plan_24 κ l0 l1 l2 M4))) (some b5) l2 M1))
def wX14_wouldPayNow (κ : Int32 → mM → Prop) (l0 : Option Nat) (l1 : Int32) (M : mM) : Prop :=
    m_gR M l0 19 7 fun x1 => m_rc M x1 4 fun b4 => wJx4a65c_get_915e3 (fun x2 M3 => m_cast M3 x2 15 (m_gR M3 x2 15 6 fun x5 => m_rc M3 x5 4 fun b8 => wJx4a65c_isEmpty_aae02 (fun x6 M7 => ((x6 = 0 → m_gR M7 x2 15 6 fun x10 => m_rc M7 x10 4 fun b13 => wJx4a65c_get_915e3 (fun x11 M12 => m_cast M12 x11 2 (m_rc M12 x11 2 fun b16 => wJ6_intValue_8abf5 (fun x14 M15 => m_rc M15 l0 19 fun b19 => wX14_isGoodNow (fun x17 M18 => ((x17 = 0 → κ 0 M18) ∧ (¬ (x17 = 0) → m_gR M18 x2 15 6 fun x21 => m_rc M18 x21 4 fun b24 => wJx4a65c_get_915e3 (fun x22 M23 => m_cast M23 x22 2 (m_rc M23 x22 2 fun b27 => wJ6_intValue_8abf5 (fun x25 M26 => m_gR M26 l0 19 8 fun x28 => m_rc M26 x28 4 fun b31 => wJx4a65c_get_915e3 (fun x29 M30 => m_cast M30 x29 18 (m_gI M30 x29 18 0 fun x32 => m_rc M30 x2 15 fun b35 => wX10_beyond (fun x33 M34 => m_rc M34 l0 19 fun b38 => wX14_comeIn (fun x36 M37 => m_gR M37 l0 19 6 fun x39 => m_ldR M37 x39 x33 4 fun x40 => m_rc M37 l0 19 fun b43 => wX14_duty (fun x41 M42 => κ x41 M42) (some b43) x36 x40 M37) (some b38) x25 x33 0 M34) (some b35) x32 M30)) (some b31) x25 M26) (some b27) M23)) (some b24) 0 M18))) (some b19) x14 l1 M15) (some b16) M12)) (some b13) 0 M7) ∧ (¬ (x6 = 0) → κ 0 M7))) (some b8) M3)) (some b4) l1 M
def wX14_wouldPay (κ : Int32 → mM → Prop) (l0 : Option Nat) (l1 : Int32) (M : mM) : Prop :=
    m_p M l0 19 0 (.int 0) fun M1 => m_rc M1 l0 19 fun b4 => wX14_isGate (fun x2 M3 => ((x2 = 0 → m_rc M3 l0 19 fun b8 => wX14_refuse (fun x6 M7 => κ x6 M7) (some b8) 1 M3) ∧ (¬ (x2 = 0) → m_rc M3 l0 19 fun b11 => wX14_wouldPayNow (fun x9 M10 => κ x9 M10) (some b11) l1 M3))) (some b4) l1 M1
def wX14_add (κ : mM → Prop) (l0 : Option Nat) (l1 : Int64) (M : mM) : Prop :=
    m_gJ M l0 19 12 fun x1 => m_p M l0 19 12 (.long ((x1 * 31) + l1)) fun M2 => κ M2
def wJ0_coder_7d493 (g : Nat → Nat) (κ : Int32 → mM → Prop) (l0 : Option Nat) (M : mM) : Prop :=
    (((1 : Int32) = 0 → (narrow .byte (.int 1) = .int 1 ∧ κ 1 M)) ∧ (¬ ((1 : Int32) = 0) → m_gI M l0 20 1 fun x2 => (narrow .byte (.int x2) = .int x2 ∧ κ x2 M)))
def wJ0_length_8abf5 (g : Nat → Nat) (κ : Int32 → mM → Prop) (l0 : Option Nat) (M : mM) : Prop :=
    m_gR M l0 20 0 fun x1 => m_len M x1 fun x2 => m_rc M l0 20 fun b5 => wJ0_coder_7d493 g (fun x3 M4 => κ (m_shr x2 x3) M4) (some b5) M
def wJ0_getBytes_840e7 (g : Nat → Nat) (κ : mM → Prop) (l0 : Option Nat) (l1 : Option Nat) (l2 : Int32) (l3 : Int32) (M : mM) : Prop :=
    m_rc M l0 20 fun b3 => wJ0_coder_7d493 g (fun x1 M2 => ((x1 = l3 → m_gR M2 l0 20 0 fun x8 => m_gR M2 l0 20 0 fun x9 => m_len M2 x9 fun x10 => m_copyB M2 x8 0 l1 (m_shl l2 l3) x10 fun M11 => κ M11) ∧ (¬ (x1 = l3) → m_gR M2 l0 20 0 fun x5 => m_gR M2 l0 20 0 fun x6 => m_len M2 x6 fun x7 => False))) (some b3) M
def wJ7_checkLength_df160 (κ : mM → Prop) (l0 : Int32) (l1 : Int32) (M : mM) : Prop :=
    ((l0 ≤ l1 → κ M) ∧ (¬ (l0 ≤ l1) → False))
def wJ7_copyOf_9075b (K B : Nat) (κ : Option Nat → mM → Prop) (l0 : Option Nat) (l1 : Int32) (M : mM) : Prop :=
    m_len M l0 fun x1 => ((l1 = x1 → ∃ B10 : Nat, ((0 + 1 ≤ K ∧ 0 + B10 ≤ B) ∧ m_cloneB M l0 B10 fun q8 M9 => ((∃ a x, (some q8) = some a ∧ M9 a = some (.inl (6, x))) ∧ (((0 + 1) ≤ K ∧ (0 + B10) ≤ B) ∧ κ (some q8) M9)))) ∧ (¬ (l1 = x1) → ∃ B5 : Nat, B5 ≤ 65536 ∧ ((0 + 1 ≤ K ∧ 0 + B5 ≤ B) ∧ m_newI M 6 l1 B5 fun q3 M4 => m_len M4 l0 fun x6 => m_copyB M4 l0 0 (some q3) 0 (m_min x6 l1) fun M7 => (((0 + 1) ≤ K ∧ (0 + B5) ≤ B) ∧ κ (some q3) M7))))
def wJ7_copyOfRangeByte_39247 (K B : Nat) (κ : Option Nat → mM → Prop) (l0 : Option Nat) (l1 : Int32) (l2 : Int32) (M : mM) : Prop :=
    wJ7_checkLength_df160 (fun M1 => ∃ B4 : Nat, B4 ≤ 65536 ∧ ((0 + 1 ≤ K ∧ 0 + B4 ≤ B) ∧ m_newI M1 6 (l2 - l1) B4 fun q2 M3 => m_len M3 l0 fun x5 => m_copyB M3 l0 l1 (some q2) 0 (m_min (x5 - l1) (l2 - l1)) fun M6 => (((0 + 1) ≤ K ∧ (0 + B4) ≤ B) ∧ κ (some q2) M6))) l1 l2 M
def wJ7_copyOfRange_39247_10 (K B : Nat) (κ : Option Nat → mM → Prop) (k9 n9 : Nat) (l0 : Option Nat) (l1 : Int32) (l2 : Int32) (M : mM) : Prop :=
    ((k9 ≤ K ∧ n9 ≤ B) ∧ ∃ K1 B2 : Nat, ((k9 + K1 ≤ K ∧ n9 + B2 ≤ B) ∧ wJ7_copyOfRangeByte_39247 K1 B2 (fun x3 M4 => (((k9 + K1) ≤ K ∧ (n9 + B2) ≤ B) ∧ κ x3 M4)) l0 l1 l2 M))
def wJ7_copyOfRange_39247 (K B : Nat) (κ : Option Nat → mM → Prop) (l0 : Option Nat) (l1 : Int32) (l2 : Int32) (M : mM) : Prop :=
    ((l1 = 0 → m_len M l0 fun x2 => ((l2 = x2 → ∃ B6 : Nat, ((0 + 1 ≤ K ∧ 0 + B6 ≤ B) ∧ m_cloneB M l0 B6 fun q4 M5 => ((∃ a x, (some q4) = some a ∧ M5 a = some (.inl (6, x))) ∧ (((0 + 1) ≤ K ∧ (0 + B6) ≤ B) ∧ κ (some q4) M5)))) ∧ (¬ (l2 = x2) → wJ7_copyOfRange_39247_10 K B κ 0 0 l0 l1 l2 M))) ∧ (¬ (l1 = 0) → wJ7_copyOfRange_39247_10 K B κ 0 0 l0 l1 l2 M))
def wJ6_stringSize_0f7a4_16 (κ : Int32 → mM → Prop) : Nat → Int32 → Int32 → Int32 → Int32 → mM → Prop
  | 0 => fun _ _ _ _ _ => False
  | f + 1 => fun (l0 : Int32) (l1 : Int32) (l2 : Int32) (l3 : Int32) (M : mM) =>
    ((10 ≤ l3 → κ (10 + l1) M) ∧ (¬ (10 ≤ l3) → ((l0 ≤ l2 → (wJ6_stringSize_0f7a4_16 κ f) l0 l1 (10 * l2) (l3 + 1) M) ∧ (¬ (l0 ≤ l2) → κ (l3 + l1) M))))
def wJ6_stringSize_0f7a4_11 (κ : Int32 → mM → Prop) (l0 : Int32) (l1 : Int32) (M : mM) : Prop :=
    ∃ u : Nat, wJ6_stringSize_0f7a4_16 κ u l0 l1 (-10) 1 M
def wJ6_stringSize_0f7a4 (κ : Int32 → mM → Prop) (l0 : Int32) (M : mM) : Prop :=
    ((l0 < 0 → wJ6_stringSize_0f7a4_11 κ l0 1 M) ∧ (¬ (l0 < 0) → wJ6_stringSize_0f7a4_11 κ (-l0) 0 M))
def wJ6_getChars_ba4f3_104 (g : Nat → Nat) (κ : Int32 → mM → Prop) (l2 : Option Nat) (l5 : Int32) (l6 : Int32) (M : mM) : Prop :=
    ((l6 = 0 → κ l5 M) ∧ (¬ (l6 = 0) → m_stB M l2 (l5 + (-1)) 45 fun M2 => κ (l5 + (-1)) M2))
def wJ6_getChars_ba4f3_22 (g : Nat → Nat) (κ : Int32 → mM → Prop) : Nat → Int32 → Option Nat → Int32 → Int32 → mM → Prop
  | 0 => fun _ _ _ _ _ => False
  | f + 1 => fun (l0 : Int32) (l2 : Option Nat) (l5 : Int32) (l6 : Int32) (M : mM) =>
    (((-100) < l0 → m_ldB M (some (g 3)) (-l0) fun x2 => m_stB M l2 (l5 + (-1)) x2 fun M3 => (((-9) ≤ l0 → wJ6_getChars_ba4f3_104 g κ l2 (l5 + (-1)) l6 M3) ∧ (¬ ((-9) ≤ l0) → m_ldB M3 (some (g 2)) (-l0) fun x5 => m_stB M3 l2 ((l5 + (-1)) + (-1)) x5 fun M6 => wJ6_getChars_ba4f3_104 g κ l2 ((l5 + (-1)) + (-1)) l6 M6))) ∧ (¬ ((-100) < l0) → m_ldB M (some (g 3)) (((l0 / 100) * 100) - l0) fun x7 => m_stB M l2 (l5 + (-1)) x7 fun M8 => m_ldB M8 (some (g 2)) (((l0 / 100) * 100) - l0) fun x9 => m_stB M8 l2 ((l5 + (-1)) + (-1)) x9 fun M10 => (wJ6_getChars_ba4f3_22 g κ f) (l0 / 100) l2 ((l5 + (-1)) + (-1)) l6 M10))
def wJ6_getChars_ba4f3_12 (g : Nat → Nat) (κ : Int32 → mM → Prop) (l0 : Int32) (l2 : Option Nat) (l5 : Int32) (s0 : Int32) (M : mM) : Prop :=
    ((s0 = 0 → ∃ u : Nat, wJ6_getChars_ba4f3_22 g κ u (-l0) l2 l5 s0 M) ∧ (¬ (s0 = 0) → ∃ u : Nat, wJ6_getChars_ba4f3_22 g κ u l0 l2 l5 s0 M))
def wJ6_getChars_ba4f3 (g : Nat → Nat) (κ : Int32 → mM → Prop) (l0 : Int32) (l1 : Int32) (l2 : Option Nat) (M : mM) : Prop :=
    ((0 ≤ l0 → wJ6_getChars_ba4f3_12 g κ l0 l2 l1 0 M) ∧ (¬ (0 ≤ l0) → wJ6_getChars_ba4f3_12 g κ l0 l2 l1 1 M))
def wJ1_canEncode_fc78d (κ : Int32 → mM → Prop) (l0 : Int32) (M : mM) : Prop :=
    ((255 < l0 → κ 0 M) ∧ (¬ (255 < l0) → κ 1 M))
def wJ5_length_8abf5 (κ : Int32 → mM → Prop) (l0 : Option Nat) (M : mM) : Prop :=
    m_gI M l0 1 3 fun x1 => κ x1 M
def wJ4_length_8abf5 (κ : Int32 → mM → Prop) (l0 : Option Nat) (M : mM) : Prop :=
    m_rc M l0 1 fun b3 => wJ5_length_8abf5 (fun x1 M2 => κ x1 M2) (some b3) M
def wJ5_getValue_6d5f1 (κ : Option Nat → mM → Prop) (l0 : Option Nat) (M : mM) : Prop :=
    m_gR M l0 1 0 fun x1 => κ x1 M
def wJ5_isLatin1_aae02 (g : Nat → Nat) (κ : Int32 → mM → Prop) (l0 : Option Nat) (M : mM) : Prop :=
    (((1 : Int32) = 0 → κ 0 M) ∧ (¬ ((1 : Int32) = 0) → m_gI M l0 1 1 fun x2 => ((x2 = 0 → κ 1 M) ∧ (¬ (x2 = 0) → κ 0 M))))
def wJ5_init_d00df (g : Nat → Nat) (K B : Nat) (κ : mM → Prop) (l0 : Option Nat) (l1 : Int32) (M : mM) : Prop :=
    ∃ b9 : Nat, l0 = some b9 ∧ (((1 : Int32) = 0 → False) ∧ (¬ ((1 : Int32) = 0) → ∃ B4 : Nat, B4 ≤ 65536 ∧ ((0 + 1 ≤ K ∧ 0 + B4 ≤ B) ∧ m_newI M 6 l1 B4 fun q2 M3 => m_p M3 l0 1 0 (va_rf (some q2)) fun M5 => m_p M5 l0 1 1 (.int 0) fun M6 => (((0 + 1) ≤ K ∧ (0 + B4) ≤ B) ∧ κ M6))))
def wJ4_init_da8c8 (g : Nat → Nat) (K B : Nat) (κ : mM → Prop) (l0 : Option Nat) (M : mM) : Prop :=
    ∃ K1 B2 : Nat, ((0 + K1 ≤ K ∧ 0 + B2 ≤ B) ∧ m_rc M l0 1 fun b4 => wJ5_init_d00df g K1 B2 (fun M3 => (((0 + K1) ≤ K ∧ (0 + B2) ≤ B) ∧ κ M3)) (some b4) 16 M)
def wJ5_newCapacity_0f7a4 (κ : Int32 → mM → Prop) (l0 : Option Nat) (l1 : Int32) (M : mM) : Prop :=
    m_gR M l0 1 0 fun x1 => m_len M x1 fun x2 => m_gI M l0 1 1 fun x3 => m_gI M l0 1 1 fun x4 => wJ8_newLength_cabcc (fun x5 M6 => ((x5 = 2147483647 → False) ∧ (¬ (x5 = 2147483647) → m_gI M6 l0 1 1 fun x8 => κ (m_shr x5 x8) M6))) x2 ((m_shl l1 x3) - x2) (x2 + (m_shl 2 x4)) M
def wJ5_ensureCapacityInternal_d00df (K B : Nat) (κ : mM → Prop) (l0 : Option Nat) (l1 : Int32) (M : mM) : Prop :=
    m_gR M l0 1 0 fun x1 => m_len M x1 fun x2 => m_gI M l0 1 1 fun x3 => (((l1 - (m_shr x2 x3)) ≤ 0 → ((0 ≤ K ∧ 0 ≤ B) ∧ κ M)) ∧ (¬ ((l1 - (m_shr x2 x3)) ≤ 0) → m_gR M l0 1 0 fun x5 => m_rc M l0 1 fun b8 => wJ5_newCapacity_0f7a4 (fun x6 M7 => m_gI M7 l0 1 1 fun x9 => ∃ K10 B11 : Nat, ((0 + K10 ≤ K ∧ 0 + B11 ≤ B) ∧ wJ7_copyOf_9075b K10 B11 (fun x12 M13 => m_p M13 l0 1 0 (va_rf x12) fun M14 => (((0 + K10) ≤ K ∧ (0 + B11) ≤ B) ∧ κ M14)) x5 (m_shl x6 x9) M7)) (some b8) l1 M))
def wJ5_inflateIfNeededFor_a7421 (g : Nat → Nat) (κ : mM → Prop) (l0 : Option Nat) (l1 : Option Nat) (M : mM) : Prop :=
    (((1 : Int32) = 0 → κ M) ∧ (¬ ((1 : Int32) = 0) → m_gI M l0 1 1 fun x2 => m_rc M l1 20 fun b5 => wJ0_coder_7d493 g (fun x3 M4 => ((x2 = x3 → κ M4) ∧ (¬ (x2 = x3) → False))) (some b5) M))
def wJ5_putStringAt_47b60 (g : Nat → Nat) (κ : mM → Prop) (l0 : Option Nat) (l1 : Int32) (l2 : Option Nat) (M : mM) : Prop :=
    m_rc M l0 1 fun b2 => wJ5_inflateIfNeededFor_a7421 g (fun M1 => m_gR M1 l0 1 0 fun x3 => m_gI M1 l0 1 1 fun x4 => m_rc M1 l2 20 fun b6 => wJ0_getBytes_840e7 g (fun M5 => κ M5) (some b6) x3 l1 x4 M1) (some b2) l2 M
def wJ5_append_cf1ce (g : Nat → Nat) (K B : Nat) (κ : Option Nat → mM → Prop) (l0 : Option Nat) (l1 : Option Nat) (M : mM) : Prop :=
    ((l1 = none → False) ∧ (¬ (l1 = none) → m_rc M l1 20 fun b4 => wJ0_length_8abf5 g (fun x2 M3 => m_gI M3 l0 1 3 fun x5 => ∃ K6 B7 : Nat, ((0 + K6 ≤ K ∧ 0 + B7 ≤ B) ∧ m_rc M3 l0 1 fun b9 => wJ5_ensureCapacityInternal_d00df K6 B7 (fun M8 => m_gI M8 l0 1 3 fun x10 => m_rc M8 l0 1 fun b12 => wJ5_putStringAt_47b60 g (fun M11 => m_gI M11 l0 1 3 fun x13 => m_p M11 l0 1 3 (.int (x13 + x2)) fun M14 => (((0 + K6) ≤ K ∧ (0 + B7) ≤ B) ∧ κ l0 M14)) (some b12) x10 l1 M8) (some b9) (x5 + x2) M3)) (some b4) M))
def wJ5_append_3fe6f_56 (g : Nat → Nat) (K B : Nat) (κ : Option Nat → mM → Prop) (k9 n9 : Nat) (l0 : Option Nat) (l1 : Int32) (M : mM) : Prop :=
    ((k9 ≤ K ∧ n9 ≤ B) ∧ m_gR M l0 1 0 fun x1 => m_gI M l0 1 3 fun x2 => m_p M l0 1 3 (.int (x2 + 1)) fun M3 => False)
def wJ5_append_3fe6f_45 (g : Nat → Nat) (K B : Nat) (κ : Option Nat → mM → Prop) (k9 n9 : Nat) (l0 : Option Nat) (l1 : Int32) (M : mM) : Prop :=
    ((k9 ≤ K ∧ n9 ≤ B) ∧ m_rc M l0 1 fun b3 => wJ5_isLatin1_aae02 g (fun x1 M2 => ((x1 = 0 → wJ5_append_3fe6f_56 g K B κ k9 n9 l0 l1 M2) ∧ (¬ (x1 = 0) → False))) (some b3) M)
def wJ5_append_3fe6f (g : Nat → Nat) (K B : Nat) (κ : Option Nat → mM → Prop) (l0 : Option Nat) (l1 : Int32) (M : mM) : Prop :=
    m_gI M l0 1 3 fun x1 => ∃ K2 B3 : Nat, ((0 + K2 ≤ K ∧ 0 + B3 ≤ B) ∧ m_rc M l0 1 fun b5 => wJ5_ensureCapacityInternal_d00df K2 B3 (fun M4 => m_rc M4 l0 1 fun b8 => wJ5_isLatin1_aae02 g (fun x6 M7 => ((x6 = 0 → wJ5_append_3fe6f_45 g K B κ (0 + K2) (0 + B3) l0 l1 M7) ∧ (¬ (x6 = 0) → wJ1_canEncode_fc78d (fun x10 M11 => ((x10 = 0 → wJ5_append_3fe6f_45 g K B κ (0 + K2) (0 + B3) l0 l1 M11) ∧ (¬ (x10 = 0) → m_gR M11 l0 1 0 fun x13 => m_gI M11 l0 1 3 fun x14 => m_p M11 l0 1 3 (.int (x14 + 1)) fun M15 => m_stB M15 x13 x14 (m_i2b l1) fun M16 => (((0 + K2) ≤ K ∧ (0 + B3) ≤ B) ∧ κ l0 M16)))) l1 M7))) (some b8) M4) (some b5) (x1 + 1) M)
def wJ5_append_c97b9_48 (g : Nat → Nat) (K B : Nat) (κ : Option Nat → mM → Prop) (k9 n9 : Nat) (l0 : Option Nat) (l3 : Int32) (M : mM) : Prop :=
    ((k9 ≤ K ∧ n9 ≤ B) ∧ m_p M l0 1 3 (.int l3) fun M1 => ((k9 ≤ K ∧ n9 ≤ B) ∧ κ l0 M1))
def wJ5_append_c97b9 (g : Nat → Nat) (K B : Nat) (κ : Option Nat → mM → Prop) (l0 : Option Nat) (l1 : Int32) (M : mM) : Prop :=
    m_gI M l0 1 3 fun x1 => wJ6_stringSize_0f7a4 (fun x2 M3 => ∃ K4 B5 : Nat, ((0 + K4 ≤ K ∧ 0 + B5 ≤ B) ∧ m_rc M3 l0 1 fun b7 => wJ5_ensureCapacityInternal_d00df K4 B5 (fun M6 => m_rc M6 l0 1 fun b10 => wJ5_isLatin1_aae02 g (fun x8 M9 => ((x8 = 0 → m_gR M9 l0 1 0 fun x12 => False) ∧ (¬ (x8 = 0) → m_gR M9 l0 1 0 fun x13 => wJ6_getChars_ba4f3 g (fun x14 M15 => wJ5_append_c97b9_48 g K B κ (0 + K4) (0 + B5) l0 (x1 + x2) M15) l1 (x1 + x2) x13 M9))) (some b10) M6) (some b7) (x1 + x2) M3)) l1 M
def wJ4_append_15ec4 (g : Nat → Nat) (K B : Nat) (κ : Option Nat → mM → Prop) (l0 : Option Nat) (l1 : Option Nat) (M : mM) : Prop :=
    ∃ K1 B2 : Nat, ((0 + K1 ≤ K ∧ 0 + B2 ≤ B) ∧ m_rc M l0 1 fun b5 => wJ5_append_cf1ce g K1 B2 (fun x3 M4 => (((0 + K1) ≤ K ∧ (0 + B2) ≤ B) ∧ κ l0 M4)) (some b5) l1 M)
def wJ4_append_cf468 (g : Nat → Nat) (K B : Nat) (κ : Option Nat → mM → Prop) (l0 : Option Nat) (l1 : Int32) (M : mM) : Prop :=
    ∃ K1 B2 : Nat, ((0 + K1 ≤ K ∧ 0 + B2 ≤ B) ∧ m_rc M l0 1 fun b5 => wJ5_append_3fe6f g K1 B2 (fun x3 M4 => (((0 + K1) ≤ K ∧ (0 + B2) ≤ B) ∧ κ l0 M4)) (some b5) l1 M)
def wJ4_append_bf812 (g : Nat → Nat) (K B : Nat) (κ : Option Nat → mM → Prop) (l0 : Option Nat) (l1 : Int32) (M : mM) : Prop :=
    ∃ K1 B2 : Nat, ((0 + K1 ≤ K ∧ 0 + B2 ≤ B) ∧ m_rc M l0 1 fun b5 => wJ5_append_c97b9 g K1 B2 (fun x3 M4 => (((0 + K1) ≤ K ∧ (0 + B2) ≤ B) ∧ κ l0 M4)) (some b5) l1 M)
def wJ0_init_db425_79 (g : Nat → Nat) (K B : Nat) (κ : mM → Prop) (k9 n9 : Nat) (l0 : Option Nat) (l3 : Option Nat) (l4 : Int32) (M : mM) : Prop :=
    ((k9 ≤ K ∧ n9 ≤ B) ∧ m_p M l0 0 1 (.int 1) fun M1 => ∃ K2 B3 : Nat, ((k9 + K2 ≤ K ∧ n9 + B3 ≤ B) ∧ wJ7_copyOfRange_39247 K2 B3 (fun x4 M5 => m_p M5 l0 0 0 (va_rf x4) fun M6 => (((k9 + K2) ≤ K ∧ (n9 + B3) ≤ B) ∧ κ M6)) l3 0 (m_shl l4 1) M1))
def wJ0_init_db425 (g : Nat → Nat) (K B : Nat) (κ : mM → Prop) (l0 : Option Nat) (l1 : Option Nat) (l2 : Option Nat) (M : mM) : Prop :=
    ∃ b9 : Nat, l0 = some b9 ∧ m_rc M l1 1 fun b3 => wJ5_getValue_6d5f1 (fun x1 M2 => m_rc M2 l1 1 fun b6 => wJ4_length_8abf5 (fun x4 M5 => m_rc M5 l1 1 fun b9 => wJ5_isLatin1_aae02 g (fun x7 M8 => ((x7 = 0 → (((1 : Int32) = 0 → wJ0_init_db425_79 g K B κ 0 0 l0 x1 x4 M8) ∧ (¬ ((1 : Int32) = 0) → m_gI M8 l1 1 2 fun x12 => ((x12 = 0 → wJ0_init_db425_79 g K B κ 0 0 l0 x1 x4 M8) ∧ (¬ (x12 = 0) → False))))) ∧ (¬ (x7 = 0) → m_p M8 l0 0 1 (.int 0) fun M14 => ∃ K15 B16 : Nat, ((0 + K15 ≤ K ∧ 0 + B16 ≤ B) ∧ wJ7_copyOfRange_39247 K15 B16 (fun x17 M18 => m_p M18 l0 0 0 (va_rf x17) fun M19 => (((0 + K15) ≤ K ∧ (0 + B16) ≤ B) ∧ κ M19)) x1 0 x4 M14)))) (some b9) M5) (some b6) M2) (some b3) M
def wJ0_init_81219 (g : Nat → Nat) (K B : Nat) (κ : mM → Prop) (l0 : Option Nat) (l1 : Option Nat) (M : mM) : Prop :=
    ∃ K1 B2 : Nat, ((0 + K1 ≤ K ∧ 0 + B2 ≤ B) ∧ m_rc M l0 0 fun b4 => wJ0_init_db425 g K1 B2 (fun M3 => (((0 + K1) ≤ K ∧ (0 + B2) ≤ B) ∧ κ M3)) (some b4) l1 none M)
def wJ4_toString_0e30d (g : Nat → Nat) (K B : Nat) (κ : Option Nat → mM → Prop) (l0 : Option Nat) (M : mM) : Prop :=
    ((0 + 1 ≤ K ∧ 0 + 4 ≤ B) ∧ m_new M 0 [.null, .int 0, .int 0, .int 0] fun q1 M2 => ∃ K3 B4 : Nat, (((0 + 1) + K3 ≤ K ∧ (0 + 4) + B4 ≤ B) ∧ m_rc M2 (some q1) 0 fun b6 => wJ0_init_81219 g K3 B4 (fun M5 => ((((0 + 1) + K3) ≤ K ∧ ((0 + 4) + B4) ≤ B) ∧ κ (some q1) M5)) (some b6) l0 M2))
def wX8_init_90 (g : Nat → Nat) (κ : mM → Prop) : Nat → Nat → Nat → Option Nat → Int32 → mM → Prop
  | 0 => fun _ _ _ _ _ => False
  | f + 1 => fun (k9 n9 : Nat) (l0 : Option Nat) (l1 : Int32) (M : mM) =>
    ((k9 ≤ 26 ∧ n9 ≤ 900) ∧ ((6 ≤ l1 → ((k9 ≤ 26 ∧ n9 ≤ 900) ∧ κ M)) ∧ (¬ (6 ≤ l1) → m_gR M l0 13 0 fun x2 => ((k9 + 1 ≤ 26 ∧ n9 + 7 ≤ 900) ∧ m_new M 7 [.int 0, .int 0, .int 0, .int 0, .int 0, .int 0, .int 0] fun q3 M4 => m_rc M4 (some q3) 7 fun b6 => wX2_init (fun M5 => m_stR M5 x2 l1 (some q3) 3 fun M7 => (wX8_init_90 g κ f) (k9 + 1) (n9 + 7) l0 (l1 + 1) M7) (some b6) l1 M4))))
def wX8_init (g : Nat → Nat) (κ : mM → Prop) (l0 : Option Nat) (M : mM) : Prop :=
    ∃ b9 : Nat, l0 = some b9 ∧ ((0 + 1 ≤ 26 ∧ 0 + 6 ≤ 900) ∧ m_newR M 3 6 6 fun q1 M2 => m_p M2 l0 13 0 (va_rf (some q1)) fun M3 => (((0 + 1) + 1 ≤ 26 ∧ (0 + 6) + 3 ≤ 900) ∧ m_new M3 4 [.int 0, .null, .int 0] fun q4 M5 => m_rc M5 (some q4) 4 fun b7 => wJx4a65c_init_da8c8 g (fun M6 => m_p M6 l0 13 1 (va_rf (some q4)) fun M8 => ((((0 + 1) + 1) + 1 ≤ 26 ∧ ((0 + 6) + 3) + 3 ≤ 900) ∧ m_new M8 4 [.int 0, .null, .int 0] fun q9 M10 => m_rc M10 (some q9) 4 fun b12 => wJx4a65c_init_da8c8 g (fun M11 => m_p M11 l0 13 2 (va_rf (some q9)) fun M13 => (((((0 + 1) + 1) + 1) + 1 ≤ 26 ∧ (((0 + 6) + 3) + 3) + 3 ≤ 900) ∧ m_new M13 4 [.int 0, .null, .int 0] fun q14 M15 => m_rc M15 (some q14) 4 fun b17 => wJx4a65c_init_da8c8 g (fun M16 => m_p M16 l0 13 3 (va_rf (some q14)) fun M18 => ((((((0 + 1) + 1) + 1) + 1) + 1 ≤ 26 ∧ ((((0 + 6) + 3) + 3) + 3) + 3 ≤ 900) ∧ m_new M18 4 [.int 0, .null, .int 0] fun q19 M20 => m_rc M20 (some q19) 4 fun b22 => wJx4a65c_init_da8c8 g (fun M21 => m_p M21 l0 13 4 (va_rf (some q19)) fun M23 => (((((((0 + 1) + 1) + 1) + 1) + 1) + 1 ≤ 26 ∧ (((((0 + 6) + 3) + 3) + 3) + 3) + 2 ≤ 900) ∧ m_new M23 10 [.int 0, .int 0] fun q24 M25 => m_rc M25 (some q24) 10 fun b27 => wX5_init (fun M26 => m_p M26 l0 13 5 (va_rf (some q24)) fun M28 => ((((((((0 + 1) + 1) + 1) + 1) + 1) + 1) + 10 ≤ 26 ∧ ((((((0 + 6) + 3) + 3) + 3) + 3) + 2) + 738 ≤ 900) ∧ m_mna M28 9 81 9 81 fun q29 M30 => m_p M30 l0 13 6 (va_rf (some q29)) fun M31 => (((((((((0 + 1) + 1) + 1) + 1) + 1) + 1) + 10) + 1 ≤ 26 ∧ (((((((0 + 6) + 3) + 3) + 3) + 3) + 2) + 738) + 6 ≤ 900) ∧ m_newI M31 0 6 6 fun q32 M33 => m_p M33 l0 13 7 (va_rf (some q32)) fun M34 => ∃ u : Nat, wX8_init_90 g κ u ((((((((0 + 1) + 1) + 1) + 1) + 1) + 1) + 10) + 1) ((((((((0 + 6) + 3) + 3) + 3) + 3) + 2) + 738) + 6) l0 0 M34))) (some b27) M25)) (some b22) M20)) (some b17) M15)) (some b12) M10)) (some b7) M5))
def wX8_queue_94 (g : Nat → Nat) (κ : Option Nat → mM → Prop) (ξ : String → mM → Prop) (R31 : Nat → Nat → Option Nat → Option Nat → Int32 → mM → Prop) (k9 n9 : Nat) (l2 : Option Nat) (l3 : Option Nat) (l4 : Int32) (M : mM) : Prop :=
    ((k9 ≤ 80 ∧ n9 ≤ 600) ∧ R31 k9 n9 l2 l3 (l4 + 1) M)
def wX8_queue_69 (g : Nat → Nat) (κ : Option Nat → mM → Prop) (ξ : String → mM → Prop) (R31 : Nat → Nat → Option Nat → Option Nat → Int32 → mM → Prop) (k9 n9 : Nat) (l2 : Option Nat) (l3 : Option Nat) (l4 : Int32) (l5 : Option Nat) (M : mM) : Prop :=
    ((k9 ≤ 80 ∧ n9 ≤ 600) ∧ m_gI M l5 11 0 fun x1 => ∃ K2 B3 : Nat, ((k9 + K2 ≤ 80 ∧ n9 + B3 ≤ 600) ∧ m_rc M l3 1 fun b6 => wJ4_append_bf812 g K2 B3 (fun x4 M5 => m_gI M5 l5 11 1 fun x7 => ((x7 = 0 → wX8_queue_94 g κ ξ R31 (k9 + K2) (n9 + B3) l2 l3 l4 M5) ∧ (¬ (x7 = 0) → ∃ K9 B10 : Nat, (((k9 + K2) + K9 ≤ 80 ∧ (n9 + B3) + B10 ≤ 600) ∧ m_rc M5 l3 1 fun b13 => wJ4_append_cf468 g K9 B10 (fun x11 M12 => wX8_queue_94 g κ ξ R31 ((k9 + K2) + K9) ((n9 + B3) + B10) l2 l3 l4 M12) (some b13) 98 M5)))) (some b6) x1 M))
def wX8_queue_31 (g : Nat → Nat) (κ : Option Nat → mM → Prop) (ξ : String → mM → Prop) : Nat → Nat → Nat → Option Nat → Option Nat → Int32 → mM → Prop
  | 0 => fun _ _ _ _ _ _ => False
  | f + 1 => fun (k9 n9 : Nat) (l2 : Option Nat) (l3 : Option Nat) (l4 : Int32) (M : mM) =>
    ((k9 ≤ 80 ∧ n9 ≤ 600) ∧ m_gR M l2 5 5 fun x1 => m_rc M x1 4 fun b4 => wJx4a65c_size_8abf5 (fun x2 M3 => ((x2 ≤ l4 → ∃ K6 B7 : Nat, ((k9 + K6 ≤ 80 ∧ n9 + B7 ≤ 600) ∧ m_rc M3 l3 1 fun b10 => wJ4_toString_0e30d g K6 B7 (fun x8 M9 => (((k9 + K6) ≤ 80 ∧ (n9 + B7) ≤ 600) ∧ κ x8 M9)) (some b10) M3)) ∧ (¬ (x2 ≤ l4) → m_gR M3 l2 5 5 fun x11 => m_rc M3 x11 4 fun b14 => wJx4a65c_get_915e3 (fun x12 M13 => m_cast M13 x12 11 (((l4 ≤ 0 → wX8_queue_69 g κ ξ (wX8_queue_31 g κ ξ f) k9 n9 l2 l3 l4 x12 M13) ∧ (¬ (l4 ≤ 0) → ∃ K16 B17 : Nat, ((k9 + K16 ≤ 80 ∧ n9 + B17 ≤ 600) ∧ m_rc M13 l3 1 fun b20 => wJ4_append_cf468 g K16 B17 (fun x18 M19 => wX8_queue_69 g κ ξ (wX8_queue_31 g κ ξ f) (k9 + K16) (n9 + B17) l2 l3 l4 x12 M19) (some b20) 32 M13))))) (some b14) l4 M3))) (some b4) M)
def wX8_queue (g : Nat → Nat) (κ : Option Nat → mM → Prop) (ξ : String → mM → Prop) (l0 : Option Nat) (l1 : Int32) (M : mM) : Prop :=
    m_rc M l0 13 fun b3 => wX8_gateNumbered (fun x1 M2 => m_gR M2 x1 5 5 fun x4 => m_rc M2 x4 4 fun b7 => wJx4a65c_isEmpty_aae02 (fun x5 M6 => ((x5 = 0 → ((0 + 1 ≤ 80 ∧ 0 + 4 ≤ 600) ∧ m_new M6 1 [.null, .int 0, .int 0, .int 0] fun q9 M10 => ∃ K11 B12 : Nat, (((0 + 1) + K11 ≤ 80 ∧ (0 + 4) + B12 ≤ 600) ∧ m_rc M10 (some q9) 1 fun b14 => wJ4_init_da8c8 g K11 B12 (fun M13 => ∃ u : Nat, wX8_queue_31 g κ ξ u ((0 + 1) + K11) ((0 + 4) + B12) x1 (some q9) 0 M13) (some b14) M10))) ∧ (¬ (x5 = 0) → ((0 ≤ 80 ∧ 0 ≤ 600) ∧ κ (some (g 10)) M6)))) (some b7) M2) ξ (some b3) l1 M
def wX14_queue_127 (g : Nat → Nat) (κ : Option Nat → mM → Prop) (R54 : Nat → Nat → Option Nat → Option Nat → Option Nat → Int32 → mM → Prop) (k9 n9 : Nat) (l0 : Option Nat) (l2 : Option Nat) (l3 : Option Nat) (l4 : Int32) (s0 : Option Nat) (s1 : Option Nat) (M : mM) : Prop :=
    ((k9 ≤ 80 ∧ n9 ≤ 600) ∧ ∃ K1 B2 : Nat, ((k9 + K1 ≤ 80 ∧ n9 + B2 ≤ 600) ∧ m_rc M s1 1 fun b5 => wJ4_append_15ec4 g K1 B2 (fun x3 M4 => R54 (k9 + K1) (n9 + B2) l0 l2 l3 (l4 + 1) M4) (some b5) s0 M))
def wX14_queue_92 (g : Nat → Nat) (κ : Option Nat → mM → Prop) (R54 : Nat → Nat → Option Nat → Option Nat → Option Nat → Int32 → mM → Prop) (k9 n9 : Nat) (l0 : Option Nat) (l2 : Option Nat) (l3 : Option Nat) (l4 : Int32) (l5 : Int32) (s0 : Option Nat) (s1 : Option Nat) (M : mM) : Prop :=
    ((k9 ≤ 80 ∧ n9 ≤ 600) ∧ ∃ K1 B2 : Nat, ((k9 + K1 ≤ 80 ∧ n9 + B2 ≤ 600) ∧ m_rc M s1 1 fun b5 => wJ4_append_15ec4 g K1 B2 (fun x3 M4 => ∃ K6 B7 : Nat, (((k9 + K1) + K6 ≤ 80 ∧ (n9 + B2) + B7 ≤ 600) ∧ m_rc M4 x3 1 fun b10 => wJ4_append_bf812 g K6 B7 (fun x8 M9 => m_gR M9 l0 19 8 fun x11 => m_rc M9 x11 4 fun b14 => wJx4a65c_get_915e3 (fun x12 M13 => m_cast M13 x12 18 (m_gI M13 x12 18 1 fun x15 => ((x15 = 0 → wX14_queue_127 g κ R54 ((k9 + K1) + K6) ((n9 + B2) + B7) l0 l2 l3 l4 (some (g 11)) x8 M13) ∧ (¬ (x15 = 0) → wX14_queue_127 g κ R54 ((k9 + K1) + K6) ((n9 + B2) + B7) l0 l2 l3 l4 (some (g 13)) x8 M13)))) (some b14) l5 M9) (some b10) l5 M4)) (some b5) s0 M))
def wX14_queue_54 (g : Nat → Nat) (κ : Option Nat → mM → Prop) : Nat → Nat → Nat → Option Nat → Option Nat → Option Nat → Int32 → mM → Prop
  | 0 => fun _ _ _ _ _ _ _ => False
  | f + 1 => fun (k9 n9 : Nat) (l0 : Option Nat) (l2 : Option Nat) (l3 : Option Nat) (l4 : Int32) (M : mM) =>
    ((k9 ≤ 80 ∧ n9 ≤ 600) ∧ m_rc M l3 4 fun b3 => wJx4a65c_size_8abf5 (fun x1 M2 => ((x1 ≤ l4 → m_rc M2 l3 4 fun b7 => wJx4a65c_isEmpty_aae02 (fun x5 M6 => ((x5 = 0 → ∃ K9 B10 : Nat, ((k9 + K9 ≤ 80 ∧ n9 + B10 ≤ 600) ∧ m_rc M6 l2 1 fun b13 => wJ4_toString_0e30d g K9 B10 (fun x11 M12 => (((k9 + K9) ≤ 80 ∧ (n9 + B10) ≤ 600) ∧ κ x11 M12)) (some b13) M6)) ∧ (¬ (x5 = 0) → ((k9 ≤ 80 ∧ n9 ≤ 600) ∧ κ (some (g 14)) M6)))) (some b7) M2) ∧ (¬ (x1 ≤ l4) → m_rc M2 l3 4 fun b16 => wJx4a65c_get_915e3 (fun x14 M15 => m_cast M15 x14 2 (m_rc M15 x14 2 fun b19 => wJ6_intValue_8abf5 (fun x17 M18 => ((l4 ≤ 0 → wX14_queue_92 g κ (wX14_queue_54 g κ f) k9 n9 l0 l2 l3 l4 x17 (some (g 11)) l2 M18) ∧ (¬ (l4 ≤ 0) → wX14_queue_92 g κ (wX14_queue_54 g κ f) k9 n9 l0 l2 l3 l4 x17 (some (g 12)) l2 M18))) (some b19) M15)) (some b16) l4 M2))) (some b3) M)
def wX14_queue_14 (g : Nat → Nat) (κ : Option Nat → mM → Prop) (k9 n9 : Nat) (l0 : Option Nat) (l1 : Int32) (s0 : Int32) (s1 : Option Nat) (M : mM) : Prop :=
    ((k9 ≤ 80 ∧ n9 ≤ 600) ∧ m_p M s1 19 0 (.int s0) fun M1 => m_gI M1 l0 19 0 fun x2 => ((x2 ≤ 0 → ((k9 + 1 ≤ 80 ∧ n9 + 4 ≤ 600) ∧ m_new M1 1 [.null, .int 0, .int 0, .int 0] fun q4 M5 => ∃ K6 B7 : Nat, (((k9 + 1) + K6 ≤ 80 ∧ (n9 + 4) + B7 ≤ 600) ∧ m_rc M5 (some q4) 1 fun b9 => wJ4_init_da8c8 g K6 B7 (fun M8 => m_gR M8 l0 19 7 fun x10 => m_rc M8 x10 4 fun b13 => wJx4a65c_get_915e3 (fun x11 M12 => m_cast M12 x11 15 (m_gR M12 x11 15 6 fun x14 => ∃ u : Nat, wX14_queue_54 g κ u ((k9 + 1) + K6) ((n9 + 4) + B7) l0 (some q4) x14 0 M12)) (some b13) l1 M8) (some b9) M5))) ∧ (¬ (x2 ≤ 0) → ((k9 ≤ 80 ∧ n9 ≤ 600) ∧ κ (some (g 11)) M1))))
def wX14_queue (g : Nat → Nat) (κ : Option Nat → mM → Prop) (l0 : Option Nat) (l1 : Int32) (M : mM) : Prop :=
    m_rc M l0 19 fun b3 => wX14_isGate (fun x1 M2 => ((x1 = 0 → wX14_queue_14 g κ 0 0 l0 l1 1 l0 M2) ∧ (¬ (x1 = 0) → wX14_queue_14 g κ 0 0 l0 l1 0 l0 M2))) (some b3) l1 M
def wX14_isSoundNow_279 (κ : Int32 → mM → Prop) (R202 : Option Nat → Option Nat → Int32 → Int32 → mM → Prop) (l0 : Option Nat) (l1 : Option Nat) (l2 : Int32) (l3 : Int32) (M : mM) : Prop :=
    R202 l0 l1 l2 (l3 + 1) M
def wX14_isSoundNow_243 (κ : Int32 → mM → Prop) (R202 : Option Nat → Option Nat → Int32 → Int32 → mM → Prop) (l0 : Option Nat) (l1 : Option Nat) (l2 : Int32) (l3 : Int32) (l4 : Option Nat) (s0 : Int32) (s1 : Int32) (M : mM) : Prop :=
    ((s1 = s0 → m_gI M l4 18 2 fun x2 => wX14_is (fun x3 M4 => ((x3 = 0 → κ 0 M4) ∧ (¬ (x3 = 0) → m_gI M4 l4 18 3 fun x6 => ((x6 = 2 → m_rc M4 l0 19 fun b10 => wX14_head (fun x8 M9 => ((x8 = 0 → wX14_isSoundNow_279 κ R202 l0 l1 l2 l3 M9) ∧ (¬ (x8 = 0) → κ 0 M9))) (some b10) l3 M4) ∧ (¬ (x6 = 2) → wX14_isSoundNow_279 κ R202 l0 l1 l2 l3 M4))))) x2 0 9 M) ∧ (¬ (s1 = s0) → κ 0 M))
def wX14_isSoundNow_202 (κ : Int32 → mM → Prop) : Nat → Option Nat → Option Nat → Int32 → Int32 → mM → Prop
  | 0 => fun _ _ _ _ _ => False
  | f + 1 => fun (l0 : Option Nat) (l1 : Option Nat) (l2 : Int32) (l3 : Int32) (M : mM) =>
    m_gR M l0 19 8 fun x1 => m_rc M x1 4 fun b4 => wJx4a65c_size_8abf5 (fun x2 M3 => ((x2 ≤ l3 → ((l2 = 30 → m_gR M3 l0 19 10 fun x7 => m_rc M3 x7 4 fun b10 => wJx4a65c_size_8abf5 (fun x8 M9 => ((120 < x8 → κ 0 M9) ∧ (¬ (120 < x8) → κ 1 M9))) (some b10) M3) ∧ (¬ (l2 = 30) → κ 0 M3))) ∧ (¬ (x2 ≤ l3) → m_gR M3 l0 19 8 fun x12 => m_rc M3 x12 4 fun b15 => wJx4a65c_get_915e3 (fun x13 M14 => m_cast M14 x13 18 (m_ldI M14 l1 l3 0 fun x16 => m_gI M14 x13 18 3 fun x17 => ((x17 = 1 → wX14_isSoundNow_243 κ (wX14_isSoundNow_202 κ f) l0 l1 l2 l3 x13 1 x16 M14) ∧ (¬ (x17 = 1) → wX14_isSoundNow_243 κ (wX14_isSoundNow_202 κ f) l0 l1 l2 l3 x13 0 x16 M14)))) (some b15) l3 M3))) (some b4) M
def wX14_isSoundNow_173 (κ : Int32 → mM → Prop) : Nat → Option Nat → Option Nat → Int32 → Option Nat → Int32 → Int32 → mM → Prop
  | 0 => fun _ _ _ _ _ _ _ => False
  | f + 1 => fun (l0 : Option Nat) (l1 : Option Nat) (l2 : Int32) (l3 : Option Nat) (l4 : Int32) (l5 : Int32) (M : mM) =>
    ((l4 ≤ l5 → ∃ u : Nat, wX14_isSoundNow_202 κ u l0 l1 l2 0 M) ∧ (¬ (l4 ≤ l5) → m_ldR M l3 l5 4 fun x2 => m_gI M x2 16 2 fun x3 => (wX14_isSoundNow_173 κ f) l0 l1 (l2 + x3) l3 l4 (l5 + 1) M))
def wX14_isSoundNow_147 (κ : Int32 → mM → Prop) (R13 : Option Nat → Option Nat → Option Nat → mM → Prop) (R38 : Option Nat → Option Nat → Option Nat → Option Nat → Int32 → Int32 → mM → Prop) (l0 : Option Nat) (l1 : Option Nat) (l2 : Option Nat) (l3 : Option Nat) (l5 : Int32) (s0 : Int32) (s1 : Int32) (M : mM) : Prop :=
    R38 l0 l1 l2 l3 (s1 ||| s0) (l5 + 1) M
def wX14_isSoundNow_122 (κ : Int32 → mM → Prop) (R13 : Option Nat → Option Nat → Option Nat → mM → Prop) (R38 : Option Nat → Option Nat → Option Nat → Option Nat → Int32 → Int32 → mM → Prop) (l0 : Option Nat) (l1 : Option Nat) (l2 : Option Nat) (l3 : Option Nat) (l4 : Int32) (l5 : Int32) (l6 : Int32) (M : mM) : Prop :=
    m_gR M l0 19 8 fun x1 => m_rc M x1 4 fun b4 => wJx4a65c_get_915e3 (fun x2 M3 => m_cast M3 x2 18 (m_gI M3 x2 18 1 fun x5 => ((x5 = 0 → wX14_isSoundNow_147 κ R13 R38 l0 l1 l2 l3 l5 1 l4 M3) ∧ (¬ (x5 = 0) → wX14_isSoundNow_147 κ R13 R38 l0 l1 l2 l3 l5 0 l4 M3)))) (some b4) l6 M
def wX14_isSoundNow_38 (κ : Int32 → mM → Prop) (R13 : Option Nat → Option Nat → Option Nat → mM → Prop) : Nat → Option Nat → Option Nat → Option Nat → Option Nat → Int32 → Int32 → mM → Prop
  | 0 => fun _ _ _ _ _ _ _ => False
  | f + 1 => fun (l0 : Option Nat) (l1 : Option Nat) (l2 : Option Nat) (l3 : Option Nat) (l4 : Int32) (l5 : Int32) (M : mM) =>
    m_gR M l3 15 6 fun x1 => m_rc M x1 4 fun b4 => wJx4a65c_size_8abf5 (fun x2 M3 => ((x2 ≤ l5 → R13 l0 l1 l2 M3) ∧ (¬ (x2 ≤ l5) → m_gR M3 l3 15 6 fun x6 => m_rc M3 x6 4 fun b9 => wJx4a65c_get_915e3 (fun x7 M8 => m_cast M8 x7 2 (m_rc M8 x7 2 fun b12 => wJ6_intValue_8abf5 (fun x10 M11 => m_ldI M11 l1 x10 0 fun x13 => m_stI M11 l1 x10 (x13 + 1) fun M14 => m_gR M14 l0 19 8 fun x15 => m_rc M14 x15 4 fun b18 => wJx4a65c_get_915e3 (fun x16 M17 => m_cast M17 x16 18 (m_gI M17 x16 18 0 fun x19 => m_rc M17 l3 15 fun b22 => wX10_has (fun x20 M21 => ((x20 = 0 → κ 0 M21) ∧ (¬ (x20 = 0) → ((l4 = 0 → wX14_isSoundNow_122 κ R13 (wX14_isSoundNow_38 κ R13 f) l0 l1 l2 l3 l4 l5 x10 M21) ∧ (¬ (l4 = 0) → m_gR M21 l0 19 8 fun x25 => m_rc M21 x25 4 fun b28 => wJx4a65c_get_915e3 (fun x26 M27 => m_cast M27 x26 18 (m_gI M27 x26 18 1 fun x29 => ((x29 = 0 → wX14_isSoundNow_122 κ R13 (wX14_isSoundNow_38 κ R13 f) l0 l1 l2 l3 l4 l5 x10 M27) ∧ (¬ (x29 = 0) → κ 0 M27)))) (some b28) x10 M21))))) (some b22) x19 M17)) (some b18) x10 M14) (some b12) M8)) (some b9) l5 M3))) (some b4) M
def wX14_isSoundNow_13 (κ : Int32 → mM → Prop) : Nat → Option Nat → Option Nat → Option Nat → mM → Prop
  | 0 => fun _ _ _ _ => False
  | f + 1 => fun (l0 : Option Nat) (l1 : Option Nat) (l2 : Option Nat) (M : mM) =>
    m_rc M l2 3 fun b1 => wJx35411_hasNext_aae02 (fun x2 M3 => ((x2 = 0 → m_gR M3 l0 19 6 fun x5 => m_len M3 x5 fun x6 => ∃ u : Nat, wX14_isSoundNow_173 κ u l0 l1 0 x5 x6 0 M3) ∧ (¬ (x2 = 0) → m_rc M3 l2 3 fun b7 => wJx35411_next_0502b (fun x8 M9 => m_cast M9 x8 15 (∃ u : Nat, wX14_isSoundNow_38 κ (wX14_isSoundNow_13 κ f) u l0 l1 l2 x8 0 0 M9)) (some b7) M3))) (some b1) M
def wX14_isSoundNow (κ : Int32 → mM → Prop) (l0 : Option Nat) (M : mM) : Prop :=
    m_newI M 0 12 12 fun q1 M2 => m_gR M2 l0 19 7 fun x3 => m_rc M2 x3 4 fun b6 => wJx4a65c_iterator_32c93 (fun x4 M5 => ∃ u : Nat, wX14_isSoundNow_13 κ u l0 (some q1) x4 M5) (some b6) M2
def wX14_isSound (κ : Int32 → mM → Prop) (l0 : Option Nat) (M : mM) : Prop :=
    m_p M l0 19 0 (.int 0) fun M1 => m_rc M1 l0 19 fun b4 => wX14_isSoundNow (fun x2 M3 => ((x2 = 0 ∨ x2 = 1) ∧ κ x2 M3)) (some b4) M1
def wX14_digest_267 (κ : Int64 → mM → Prop) (k9 n9 : Nat) (l0 : Option Nat) (s0 : Int64) (s1 : Option Nat) (M : mM) : Prop :=
    ((k9 ≤ 20 ∧ n9 ≤ 821) ∧ m_rc M s1 19 fun b2 => wX14_add (fun M1 => m_gJ M1 l0 19 12 fun x3 => ((k9 ≤ 20 ∧ n9 ≤ 821) ∧ κ x3 M1)) (some b2) s0 M)
def wX14_digest_219 (κ : Int64 → mM → Prop) : Nat → Nat → Nat → Option Nat → Int32 → mM → Prop
  | 0 => fun _ _ _ _ _ => False
  | f + 1 => fun (k9 n9 : Nat) (l0 : Option Nat) (l1 : Int32) (M : mM) =>
    ((k9 ≤ 20 ∧ n9 ≤ 821) ∧ ((6 ≤ l1 → ((k9 + 1 ≤ 20 ∧ n9 + 729 ≤ 821) ∧ m_rc M l0 19 fun b4 => wX14_planNow (fun x2 M3 => m_rc M3 l0 19 fun b6 => wX14_add (fun M5 => (((k9 + 1) + 2 ≤ 20 ∧ (n9 + 729) + 16 ≤ 821) ∧ m_rc M5 l0 19 fun b9 => wX14_isSoundNow (fun x7 M8 => ((x7 = 0 → wX14_digest_267 κ ((k9 + 1) + 2) ((n9 + 729) + 16) l0 0 l0 M8) ∧ (¬ (x7 = 0) → wX14_digest_267 κ ((k9 + 1) + 2) ((n9 + 729) + 16) l0 1 l0 M8))) (some b9) M5)) (some b6) (Int32.toInt64 x2) M3) (some b4) 20 (-1) M)) ∧ (¬ (6 ≤ l1) → m_rc M l0 19 fun b13 => wX14_wayNow (fun x11 M12 => m_rc M12 l0 19 fun b15 => wX14_add (fun M14 => (wX14_digest_219 κ f) k9 n9 l0 (l1 + 1) M14) (some b15) (Int32.toInt64 x11) M12) (some b13) 0 l1 M)))
def wX14_digest_188 (κ : Int64 → mM → Prop) (R175 : Nat → Nat → Option Nat → Int32 → mM → Prop) : Nat → Nat → Nat → Option Nat → Int32 → Int32 → mM → Prop
  | 0 => fun _ _ _ _ _ _ => False
  | f + 1 => fun (k9 n9 : Nat) (l0 : Option Nat) (l1 : Int32) (l2 : Int32) (M : mM) =>
    ((k9 ≤ 20 ∧ n9 ≤ 821) ∧ ((6 ≤ l2 → R175 k9 n9 l0 (l1 + 1) M) ∧ (¬ (6 ≤ l2) → m_rc M l0 19 fun b4 => wX14_ofPartNow (fun x2 M3 => m_rc M3 l0 19 fun b6 => wX14_add (fun M5 => (wX14_digest_188 κ R175 f) k9 n9 l0 l1 (l2 + 1) M5) (some b6) (Int32.toInt64 x2) M3) (some b4) l1 l2 M)))
def wX14_digest_175 (κ : Int64 → mM → Prop) : Nat → Nat → Nat → Option Nat → Int32 → mM → Prop
  | 0 => fun _ _ _ _ _ => False
  | f + 1 => fun (k9 n9 : Nat) (l0 : Option Nat) (l1 : Int32) (M : mM) =>
    ((k9 ≤ 20 ∧ n9 ≤ 821) ∧ m_gR M l0 19 9 fun x1 => m_rc M x1 4 fun b4 => wJx4a65c_size_8abf5 (fun x2 M3 => ((x2 ≤ l1 → ∃ u : Nat, wX14_digest_219 κ u k9 n9 l0 0 M3) ∧ (¬ (x2 ≤ l1) → ∃ u : Nat, wX14_digest_188 κ (wX14_digest_175 κ f) u k9 n9 l0 l1 3 M3))) (some b4) M)
def wX14_digest_144 (κ : Int64 → mM → Prop) (R131 : Nat → Nat → Option Nat → Int32 → mM → Prop) : Nat → Nat → Nat → Option Nat → Int32 → Int32 → mM → Prop
  | 0 => fun _ _ _ _ _ _ => False
  | f + 1 => fun (k9 n9 : Nat) (l0 : Option Nat) (l1 : Int32) (l2 : Int32) (M : mM) =>
    ((k9 ≤ 20 ∧ n9 ≤ 821) ∧ ((9 ≤ l2 → R131 k9 n9 l0 (l1 + 1) M) ∧ (¬ (9 ≤ l2) → m_rc M l0 19 fun b4 => wX14_ofSleeperNow (fun x2 M3 => m_rc M3 l0 19 fun b6 => wX14_add (fun M5 => (wX14_digest_144 κ R131 f) k9 n9 l0 l1 (l2 + 1) M5) (some b6) (Int32.toInt64 x2) M3) (some b4) l1 l2 M)))
def wX14_digest_131 (κ : Int64 → mM → Prop) : Nat → Nat → Nat → Option Nat → Int32 → mM → Prop
  | 0 => fun _ _ _ _ _ => False
  | f + 1 => fun (k9 n9 : Nat) (l0 : Option Nat) (l1 : Int32) (M : mM) =>
    ((k9 ≤ 20 ∧ n9 ≤ 821) ∧ m_gR M l0 19 8 fun x1 => m_rc M x1 4 fun b4 => wJx4a65c_size_8abf5 (fun x2 M3 => ((x2 ≤ l1 → ∃ u : Nat, wX14_digest_175 κ u k9 n9 l0 0 M3) ∧ (¬ (x2 ≤ l1) → ∃ u : Nat, wX14_digest_144 κ (wX14_digest_131 κ f) u k9 n9 l0 l1 0 M3))) (some b4) M)
def wX14_digest_90 (κ : Int64 → mM → Prop) (R77 : Nat → Nat → Option Nat → Int32 → mM → Prop) : Nat → Nat → Nat → Option Nat → Int32 → Int32 → mM → Prop
  | 0 => fun _ _ _ _ _ _ => False
  | f + 1 => fun (k9 n9 : Nat) (l0 : Option Nat) (l1 : Int32) (l2 : Int32) (M : mM) =>
    ((k9 ≤ 20 ∧ n9 ≤ 821) ∧ ((10 ≤ l2 → m_rc M l0 19 fun b4 => wX14_wouldPayNow (fun x2 M3 => m_rc M3 l0 19 fun b6 => wX14_add (fun M5 => R77 k9 n9 l0 (l1 + 1) M5) (some b6) (Int32.toInt64 x2) M3) (some b4) l1 M) ∧ (¬ (10 ≤ l2) → m_rc M l0 19 fun b9 => wX14_ofGateNow (fun x7 M8 => m_rc M8 l0 19 fun b11 => wX14_add (fun M10 => (wX14_digest_90 κ R77 f) k9 n9 l0 l1 (l2 + 1) M10) (some b11) (Int32.toInt64 x7) M8) (some b9) l1 l2 M)))
def wX14_digest_77 (κ : Int64 → mM → Prop) : Nat → Nat → Nat → Option Nat → Int32 → mM → Prop
  | 0 => fun _ _ _ _ _ => False
  | f + 1 => fun (k9 n9 : Nat) (l0 : Option Nat) (l1 : Int32) (M : mM) =>
    ((k9 ≤ 20 ∧ n9 ≤ 821) ∧ m_gR M l0 19 7 fun x1 => m_rc M x1 4 fun b4 => wJx4a65c_size_8abf5 (fun x2 M3 => ((x2 ≤ l1 → ∃ u : Nat, wX14_digest_131 κ u k9 n9 l0 0 M3) ∧ (¬ (x2 ≤ l1) → ∃ u : Nat, wX14_digest_90 κ (wX14_digest_77 κ f) u k9 n9 l0 l1 2 M3))) (some b4) M)
def wX14_digest_46 (κ : Int64 → mM → Prop) (R38 : Nat → Nat → Option Nat → Int32 → mM → Prop) : Nat → Nat → Nat → Option Nat → Int32 → Int32 → mM → Prop
  | 0 => fun _ _ _ _ _ _ => False
  | f + 1 => fun (k9 n9 : Nat) (l0 : Option Nat) (l1 : Int32) (l2 : Int32) (M : mM) =>
    ((k9 ≤ 20 ∧ n9 ≤ 821) ∧ ((9 ≤ l2 → R38 k9 n9 l0 (l1 + 1) M) ∧ (¬ (9 ≤ l2) → m_rc M l0 19 fun b4 => wX14_ofLandNow (fun x2 M3 => m_rc M3 l0 19 fun b6 => wX14_add (fun M5 => (wX14_digest_46 κ R38 f) k9 n9 l0 l1 (l2 + 1) M5) (some b6) (Int32.toInt64 x2) M3) (some b4) l1 l2 M)))
def wX14_digest_38 (κ : Int64 → mM → Prop) : Nat → Nat → Nat → Option Nat → Int32 → mM → Prop
  | 0 => fun _ _ _ _ _ => False
  | f + 1 => fun (k9 n9 : Nat) (l0 : Option Nat) (l1 : Int32) (M : mM) =>
    ((k9 ≤ 20 ∧ n9 ≤ 821) ∧ ((6 ≤ l1 → ∃ u : Nat, wX14_digest_77 κ u k9 n9 l0 0 M) ∧ (¬ (6 ≤ l1) → ∃ u : Nat, wX14_digest_46 κ (wX14_digest_38 κ f) u k9 n9 l0 l1 0 M)))
def wX14_digest_14 (κ : Int64 → mM → Prop) : Nat → Nat → Nat → Option Nat → Int32 → mM → Prop
  | 0 => fun _ _ _ _ _ => False
  | f + 1 => fun (k9 n9 : Nat) (l0 : Option Nat) (l1 : Int32) (M : mM) =>
    ((k9 ≤ 20 ∧ n9 ≤ 821) ∧ ((17 ≤ l1 → ∃ u : Nat, wX14_digest_38 κ u k9 n9 l0 0 M) ∧ (¬ (17 ≤ l1) → ((k9 + 1 ≤ 20 ∧ n9 + 4 ≤ 821) ∧ m_rc M l0 19 fun b4 => wX14_nightNow (fun x2 M3 => m_rc M3 l0 19 fun b6 => wX14_add (fun M5 => (wX14_digest_14 κ f) (k9 + 1) (n9 + 4) l0 (l1 + 1) M5) (some b6) (Int32.toInt64 x2) M3) (some b4) l1 M))))
def wX14_digest (κ : Int64 → mM → Prop) (l0 : Option Nat) (M : mM) : Prop :=
    m_p M l0 19 0 (.int 0) fun M1 => m_p M1 l0 19 12 (.long 6007) fun M2 => ∃ u : Nat, wX14_digest_14 κ u 0 0 l0 0 M2
def wL_land (κ : Int32 → mM → Prop) (l0 : Option Nat) (l1 : Int32) (l2 : Int32) (l3 : Int32) (l4 : Option Nat) (M : mM) : Prop :=
    m_rc M l0 13 fun b3 => wX8_land (fun x1 M2 => m_p M2 l4 14 0 (.long (Int32.toInt64 x1)) fun M4 => κ 0 M4) (fun E9 M9 => (E9 = "java/lang/IndexOutOfBoundsException" ∧ κ 1 M9) ∨ (E9 = "java/lang/IllegalArgumentException" ∧ κ 2 M9)) (some b3) l1 l2 l3 M
def wL_trade (κ : Int32 → mM → Prop) (l0 : Option Nat) (l1 : Int32) (l2 : Int32) (l3 : Int32) (l4 : Option Nat) (M : mM) : Prop :=
    m_rc M l0 13 fun b3 => wX8_trade (fun x1 M2 => m_p M2 l4 14 0 (.long (Int32.toInt64 x1)) fun M4 => κ 0 M4) (fun E9 M9 => (E9 = "java/lang/IndexOutOfBoundsException" ∧ κ 1 M9) ∨ (E9 = "java/lang/IllegalArgumentException" ∧ κ 2 M9) ∨ (E9 = "java/lang/IllegalStateException" ∧ κ 3 M9)) (some b3) l1 l2 l3 M
def wL_gate (g : Nat → Nat) (κ : Int32 → mM → Prop) (l0 : Option Nat) (l1 : Int32) (l2 : Int32) (l3 : Int32) (l4 : Int32) (l5 : Option Nat) (M : mM) : Prop :=
    m_rc M l0 13 fun b3 => wX8_gate g (fun x1 M2 => m_p M2 l5 14 0 (.long (Int32.toInt64 x1)) fun M4 => κ 0 M4) (fun E9 M9 => (E9 = "java/lang/IndexOutOfBoundsException" ∧ κ 1 M9) ∨ (E9 = "java/lang/IllegalArgumentException" ∧ κ 2 M9) ∨ (E9 = "java/lang/IllegalStateException" ∧ κ 3 M9)) (some b3) l1 l2 l3 l4 M
def wL_odds (κ : Int32 → mM → Prop) (l0 : Option Nat) (l1 : Int32) (l2 : Int32) (l3 : Option Nat) (M : mM) : Prop :=
    m_rc M l0 13 fun b3 => wX8_odds (fun x1 M2 => m_p M2 l3 14 0 (.long (Int32.toInt64 x1)) fun M4 => κ 0 M4) (fun E9 M9 => (E9 = "java/lang/IndexOutOfBoundsException" ∧ κ 1 M9) ∨ (E9 = "java/lang/IllegalArgumentException" ∧ κ 2 M9)) (some b3) l1 l2 M
def wL_relieve (κ : Int32 → mM → Prop) (l0 : Option Nat) (l1 : Int32) (l2 : Option Nat) (M : mM) : Prop :=
    m_rc M l0 13 fun b3 => wX8_relieve (fun x1 M2 => m_p M2 l2 14 0 (.long (Int32.toInt64 x1)) fun M4 => κ 0 M4) (fun E9 M9 => (E9 = "java/lang/IndexOutOfBoundsException" ∧ κ 1 M9)) (some b3) l1 M
def wL_sleeper (g : Nat → Nat) (κ : Int32 → mM → Prop) (l0 : Option Nat) (l1 : Int32) (l2 : Int32) (l3 : Int32) (l4 : Option Nat) (M : mM) : Prop :=
    m_rc M l0 13 fun b3 => wX8_sleeper g (fun x1 M2 => m_p M2 l4 14 0 (.long (Int32.toInt64 x1)) fun M4 => κ 0 M4) (fun E9 M9 => (E9 = "java/lang/IndexOutOfBoundsException" ∧ κ 1 M9) ∨ (E9 = "java/lang/IllegalArgumentException" ∧ κ 2 M9) ∨ (E9 = "java/lang/IllegalStateException" ∧ κ 3 M9)) (some b3) l1 l2 l3 M
def wL_part (g : Nat → Nat) (κ : Int32 → mM → Prop) (l0 : Option Nat) (l1 : Int32) (l2 : Int32) (l3 : Int32) (l4 : Int32) (l5 : Option Nat) (M : mM) : Prop :=
    m_rc M l0 13 fun b3 => wX8_part g (fun x1 M2 => m_p M2 l5 14 0 (.long (Int32.toInt64 x1)) fun M4 => κ 0 M4) (fun E9 M9 => (E9 = "java/lang/IndexOutOfBoundsException" ∧ κ 1 M9) ∨ (E9 = "java/lang/IllegalArgumentException" ∧ κ 2 M9) ∨ (E9 = "java/lang/IllegalStateException" ∧ κ 3 M9)) (some b3) l1 l2 l3 l4 M
def wL_give (κ : Int32 → mM → Prop) (l0 : Option Nat) (l1 : Int32) (l2 : Int32) (l3 : Option Nat) (M : mM) : Prop :=
    m_rc M l0 13 fun b3 => wX8_give (fun x1 M2 => m_p M2 l3 14 0 (.long (Int32.toInt64 x1)) fun M4 => κ 0 M4) (fun E9 M9 => (E9 = "java/lang/IndexOutOfBoundsException" ∧ κ 1 M9) ∨ (E9 = "java/lang/IllegalStateException" ∧ κ 2 M9)) (some b3) l1 l2 M
def wL_sing (κ : Int32 → mM → Prop) (l0 : Option Nat) (l1 : Int32) (l2 : Int32) (l3 : Int32) (l4 : Int32) (l5 : Option Nat) (M : mM) : Prop :=
    m_rc M l0 13 fun b3 => wX8_sing (fun x1 M2 => m_p M2 l5 14 0 (.long (Int32.toInt64 x1)) fun M4 => κ 0 M4) (fun E9 M9 => (E9 = "java/lang/IndexOutOfBoundsException" ∧ κ 1 M9) ∨ (E9 = "java/lang/IllegalArgumentException" ∧ κ 2 M9)) (some b3) l1 l2 l3 l4 M
def wL_revoke_15 (κ : Int32 → mM → Prop) (s0 : Int64) (s1 : Option Nat) (M : mM) : Prop :=
    m_p M s1 14 0 (.long s0) fun M1 => κ 0 M1
def wL_revoke (κ : Int32 → mM → Prop) (l0 : Option Nat) (l1 : Int32) (l2 : Int32) (l3 : Option Nat) (M : mM) : Prop :=
    m_rc M l0 13 fun b3 => wX8_revoke (fun x1 M2 => ((x1 = 0 → wL_revoke_15 κ 0 l3 M2) ∧ (¬ (x1 = 0) → wL_revoke_15 κ 1 l3 M2))) (fun E9 M9 => (E9 = "java/lang/IndexOutOfBoundsException" ∧ κ 1 M9) ∨ (E9 = "java/lang/IllegalArgumentException" ∧ κ 2 M9)) (some b3) l1 l2 M
def wL_join (g : Nat → Nat) (κ : Int32 → mM → Prop) (l0 : Option Nat) (l1 : Int32) (l2 : Int32) (l3 : Int32) (l4 : Option Nat) (M : mM) : Prop :=
    m_rc M l0 13 fun b3 => wX8_join g (fun x1 M2 => m_p M2 l4 14 0 (.long (Int32.toInt64 x1)) fun M4 => κ 0 M4) (fun E9 M9 => (E9 = "java/lang/IndexOutOfBoundsException" ∧ κ 1 M9) ∨ (E9 = "java/lang/IllegalArgumentException" ∧ κ 2 M9) ∨ (E9 = "java/lang/IllegalStateException" ∧ κ 3 M9)) (some b3) l1 l2 l3 M
def wL_leave (κ : Int32 → mM → Prop) (l0 : Option Nat) (l1 : Int32) (l2 : Option Nat) (M : mM) : Prop :=
    m_rc M l0 13 fun b3 => wX8_leave (fun x1 M2 => m_p M2 l2 14 0 (.long (Int32.toInt64 x1)) fun M4 => κ 0 M4) (fun E9 M9 => (E9 = "java/lang/IndexOutOfBoundsException" ∧ κ 1 M9) ∨ (E9 = "java/lang/IllegalStateException" ∧ κ 2 M9)) (some b3) l1 M
def wL_yawn (g : Nat → Nat) (κ : Int32 → mM → Prop) (l0 : Option Nat) (l1 : Int32) (l2 : Option Nat) (M : mM) : Prop :=
    m_rc M l0 13 fun b3 => wX8_yawn g (fun x1 M2 => m_p M2 l2 14 0 (.long (Int32.toInt64 x1)) fun M4 => κ 0 M4) (fun E9 M9 => (E9 = "java/lang/IndexOutOfBoundsException" ∧ κ 1 M9) ∨ (E9 = "java/lang/IllegalStateException" ∧ κ 2 M9)) (some b3) l1 M
def wL_appeal_14 (κ : Int32 → mM → Prop) (s0 : Int64) (s1 : Option Nat) (M : mM) : Prop :=
    m_p M s1 14 0 (.long s0) fun M1 => κ 0 M1
def wL_appeal (κ : Int32 → mM → Prop) (l0 : Option Nat) (l1 : Int32) (l2 : Option Nat) (M : mM) : Prop :=
    m_rc M l0 13 fun b3 => wX8_appeal (fun x1 M2 => ((x1 = 0 → wL_appeal_14 κ 0 l2 M2) ∧ (¬ (x1 = 0) → wL_appeal_14 κ 1 l2 M2))) (fun E9 M9 => (E9 = "java/lang/IndexOutOfBoundsException" ∧ κ 1 M9) ∨ (E9 = "java/lang/IllegalStateException" ∧ κ 2 M9)) (some b3) l1 M
def wL_pass (κ : Int32 → mM → Prop) (l0 : Option Nat) (l1 : Int32) (l2 : Option Nat) (M : mM) : Prop :=
    m_rc M l0 13 fun b3 => wX8_pass (fun x1 M2 => m_p M2 l2 14 0 (.long (Int32.toInt64 x1)) fun M4 => κ 0 M4) (fun E9 M9 => (E9 = "java/lang/IllegalArgumentException" ∧ κ 1 M9) ∨ (E9 = "java/lang/IllegalStateException" ∧ κ 2 M9)) (some b3) l1 M
def wL_ofLand (κ : Int32 → mM → Prop) (l0 : Option Nat) (l1 : Int32) (l2 : Int32) (l3 : Option Nat) (M : mM) : Prop :=
    m_rc M l0 13 fun b3 => wX8_ofLand (fun x1 M2 => m_p M2 l3 14 0 (.long (Int32.toInt64 x1)) fun M4 => κ 0 M4) (fun E9 M9 => (E9 = "java/lang/IndexOutOfBoundsException" ∧ κ 1 M9) ∨ (E9 = "java/lang/IllegalArgumentException" ∧ κ 2 M9)) (some b3) l1 l2 M
def wL_ofGate (κ : Int32 → mM → Prop) (l0 : Option Nat) (l1 : Int32) (l2 : Int32) (l3 : Option Nat) (M : mM) : Prop :=
    m_rc M l0 13 fun b3 => wX8_ofGate (fun x1 M2 => m_p M2 l3 14 0 (.long (Int32.toInt64 x1)) fun M4 => κ 0 M4) (fun E9 M9 => (E9 = "java/lang/IndexOutOfBoundsException" ∧ κ 1 M9) ∨ (E9 = "java/lang/IllegalArgumentException" ∧ κ 2 M9)) (some b3) l1 l2 M
def wL_ofSleeper (κ : Int32 → mM → Prop) (l0 : Option Nat) (l1 : Int32) (l2 : Int32) (l3 : Option Nat) (M : mM) : Prop :=
    m_rc M l0 13 fun b3 => wX8_ofSleeper (fun x1 M2 => m_p M2 l3 14 0 (.long (Int32.toInt64 x1)) fun M4 => κ 0 M4) (fun E9 M9 => (E9 = "java/lang/IndexOutOfBoundsException" ∧ κ 1 M9) ∨ (E9 = "java/lang/IllegalArgumentException" ∧ κ 2 M9)) (some b3) l1 l2 M
def wL_ofPart (κ : Int32 → mM → Prop) (l0 : Option Nat) (l1 : Int32) (l2 : Int32) (l3 : Option Nat) (M : mM) : Prop :=
    m_rc M l0 13 fun b3 => wX8_ofPart (fun x1 M2 => m_p M2 l3 14 0 (.long (Int32.toInt64 x1)) fun M4 => κ 0 M4) (fun E9 M9 => (E9 = "java/lang/IndexOutOfBoundsException" ∧ κ 1 M9) ∨ (E9 = "java/lang/IllegalArgumentException" ∧ κ 2 M9)) (some b3) l1 l2 M
def wL_isGood_15 (κ : Int32 → mM → Prop) (s0 : Int64) (s1 : Option Nat) (M : mM) : Prop :=
    m_p M s1 14 0 (.long s0) fun M1 => κ 0 M1
def wL_isGood (κ : Int32 → mM → Prop) (l0 : Option Nat) (l1 : Int32) (l2 : Int32) (l3 : Option Nat) (M : mM) : Prop :=
    m_rc M l0 13 fun b3 => wX8_isGood (fun x1 M2 => ((x1 = 0 → wL_isGood_15 κ 0 l3 M2) ∧ (¬ (x1 = 0) → wL_isGood_15 κ 1 l3 M2))) (fun E9 M9 => (E9 = "java/lang/IndexOutOfBoundsException" ∧ κ 1 M9)) (some b3) l1 l2 M
def wL_queue (g : Nat → Nat) (κ : Int32 → mM → Prop) (l0 : Option Nat) (l1 : Int32) (l2 : Option Nat) (M : mM) : Prop :=
    m_rc M l0 13 fun b3 => wX8_queue g (fun x1 M2 => m_p M2 l2 14 1 (va_rf x1) fun M4 => κ 0 M4) (fun E9 M9 => (E9 = "java/lang/IndexOutOfBoundsException" ∧ κ 1 M9)) (some b3) l1 M
def wL_night (κ : Int32 → mM → Prop) (l0 : Option Nat) (l1 : Int32) (l2 : Option Nat) (M : mM) : Prop :=
    m_rc M l0 13 fun b3 => wX8_night (fun x1 M2 => m_p M2 l2 14 0 (.long (Int32.toInt64 x1)) fun M4 => κ 0 M4) (fun E9 M9 => (E9 = "java/lang/IllegalArgumentException" ∧ κ 1 M9)) (some b3) l1 M
def wL_way (κ : Int32 → mM → Prop) (l0 : Option Nat) (l1 : Int32) (l2 : Int32) (l3 : Option Nat) (M : mM) : Prop :=
    m_rc M l0 13 fun b3 => wX8_way (fun x1 M2 => m_p M2 l3 14 0 (.long (Int32.toInt64 x1)) fun M4 => κ 0 M4) (fun E9 M9 => (E9 = "java/lang/IndexOutOfBoundsException" ∧ κ 1 M9)) (some b3) l1 l2 M
def wL_plan (κ : Int32 → mM → Prop) (l0 : Option Nat) (l1 : Int32) (l2 : Int32) (l3 : Option Nat) (M : mM) : Prop :=
    m_rc M l0 13 fun b3 => wX8_plan (fun x1 M2 => m_p M2 l3 14 0 (.long (Int32.toInt64 x1)) fun M4 => κ 0 M4) (fun E9 M9 => (E9 = "java/lang/IndexOutOfBoundsException" ∧ κ 1 M9) ∨ (E9 = "java/lang/IllegalArgumentException" ∧ κ 2 M9)) (some b3) l1 l2 M
def wL_wouldPay (κ : Int32 → mM → Prop) (l0 : Option Nat) (l1 : Int32) (l2 : Option Nat) (M : mM) : Prop :=
    m_rc M l0 13 fun b3 => wX8_wouldPay (fun x1 M2 => m_p M2 l2 14 0 (.long (Int32.toInt64 x1)) fun M4 => κ 0 M4) (fun E9 M9 => (E9 = "java/lang/IndexOutOfBoundsException" ∧ κ 1 M9)) (some b3) l1 M
def wL_law_1259 (sb L : Nat) (xs : Nat → Int32) (g : Nat → Nat) (κ : Int32 → mM → Prop) (R27 : Nat → Nat → Option Nat → Option Nat → Option Nat → Option Nat → Int32 → mM → Prop) (k9 n9 : Nat) (l0 : Option Nat) (l1 : Option Nat) (l2 : Option Nat) (l3 : Option Nat) (l4 : Int32) (M : mM) : Prop :=
    ((k9 ≤ 601024 ∧ n9 ≤ 7293034) ∧ R27 k9 n9 l0 l1 l2 l3 (l4 + 5) M)
def wL_law_454 (sb L : Nat) (xs : Nat → Int32) (g : Nat → Nat) (κ : Int32 → mM → Prop) (R27 : Nat → Nat → Option Nat → Option Nat → Option Nat → Option Nat → Int32 → mM → Prop) (k9 n9 : Nat) (l0 : Option Nat) (l1 : Option Nat) (l2 : Option Nat) (l3 : Option Nat) (l4 : Int32) (s0 : Int32) (s1 : Int32) (s2 : Option Nat) (M : mM) : Prop :=
    ((k9 ≤ 601024 ∧ n9 ≤ 7293034) ∧ m_sld l0 sb L xs (l4 + 3) fun x1 => ((k9 + 2 ≤ 601024 ∧ n9 + 24 ≤ 7293034) ∧ m_rc M s2 19 fun b4 => wX14_sleeper g (fun x2 M3 => wL_law_1259 sb L xs g κ R27 (k9 + 2) (n9 + 24) l0 l1 l2 l3 l4 M3) (some b4) s1 s0 x1 M))
def wL_law_421 (sb L : Nat) (xs : Nat → Int32) (g : Nat → Nat) (κ : Int32 → mM → Prop) (R27 : Nat → Nat → Option Nat → Option Nat → Option Nat → Option Nat → Int32 → mM → Prop) (k9 n9 : Nat) (l0 : Option Nat) (l1 : Option Nat) (l2 : Option Nat) (l3 : Option Nat) (l4 : Int32) (s0 : Int32) (s1 : Int32) (s2 : Option Nat) (M : mM) : Prop :=
    ((k9 ≤ 601024 ∧ n9 ≤ 7293034) ∧ m_sld l0 sb L xs (l4 + 3) fun x1 => ((k9 + 5 ≤ 601024 ∧ n9 + 42 ≤ 7293034) ∧ wL_sleeper g (fun x2 M3 => m_sld l0 sb L xs (l4 + 1) fun x4 => m_sld l0 sb L xs (l4 + 2) fun x5 => ((x5 = 0 → wL_law_454 sb L xs g κ R27 (k9 + 5) (n9 + 42) l0 l1 l2 l3 l4 0 x4 l2 M3) ∧ (¬ (x5 = 0) → wL_law_454 sb L xs g κ R27 (k9 + 5) (n9 + 42) l0 l1 l2 l3 l4 1 x4 l2 M3))) s2 s1 s0 x1 l3 M))
def wL_law_1122 (sb L : Nat) (xs : Nat → Int32) (g : Nat → Nat) (κ : Int32 → mM → Prop) (R27 : Nat → Nat → Option Nat → Option Nat → Option Nat → Option Nat → Int32 → mM → Prop) (k9 n9 : Nat) (l0 : Option Nat) (l1 : Option Nat) (l2 : Option Nat) (l3 : Option Nat) (l4 : Int32) (M : mM) : Prop :=
    ((k9 ≤ 601024 ∧ n9 ≤ 7293034) ∧ wL_law_1259 sb L xs g κ R27 k9 n9 l0 l1 l2 l3 l4 M)
def wL_law_27 (sb L : Nat) (xs : Nat → Int32) (g : Nat → Nat) (κ : Int32 → mM → Prop) : Nat → Nat → Nat → Option Nat → Option Nat → Option Nat → Option Nat → Int32 → mM → Prop
  | 0 => fun _ _ _ _ _ _ _ _ => False
  | f + 1 => fun (k9 n9 : Nat) (l0 : Option Nat) (l1 : Option Nat) (l2 : Option Nat) (l3 : Option Nat) (l4 : Int32) (M : mM) =>
    ((k9 ≤ 601024 ∧ n9 ≤ 7293034) ∧ m_slen l0 sb L fun x1 => (((x1 - 5) < l4 → ((k9 ≤ 601024 ∧ n9 ≤ 7293034) ∧ κ 1 M)) ∧ (¬ ((x1 - 5) < l4) → m_sld l0 sb L xs l4 fun x3 => (((x3 &&& 31) = 0 → m_sld l0 sb L xs (l4 + 1) fun x5 => m_sld l0 sb L xs (l4 + 2) fun x6 => m_sld l0 sb L xs (l4 + 3) fun x7 => ((k9 + 3 ≤ 601024 ∧ n9 + 18 ≤ 7293034) ∧ wL_land (fun x8 M9 => m_sld l0 sb L xs (l4 + 1) fun x10 => m_sld l0 sb L xs (l4 + 2) fun x11 => m_sld l0 sb L xs (l4 + 3) fun x12 => m_rc M9 l2 19 fun b15 => wX14_land (fun x13 M14 => wL_law_1259 sb L xs g κ (wL_law_27 sb L xs g κ f) (k9 + 3) (n9 + 18) l0 l1 l2 l3 l4 M14) (some b15) x10 x11 x12 M9) l1 x5 x6 x7 l3 M)) ∧ (¬ (x3 &&& 31) = 0 → (((x3 &&& 31) = 1 → m_sld l0 sb L xs (l4 + 1) fun x17 => m_sld l0 sb L xs (l4 + 2) fun x18 => m_sld l0 sb L xs (l4 + 3) fun x19 => ((k9 + 3 ≤ 601024 ∧ n9 + 18 ≤ 7293034) ∧ wL_trade (fun x20 M21 => m_sld l0 sb L xs (l4 + 1) fun x22 => m_sld l0 sb L xs (l4 + 2) fun x23 => m_sld l0 sb L xs (l4 + 3) fun x24 => m_rc M21 l2 19 fun b27 => wX14_trade (fun x25 M26 => wL_law_1259 sb L xs g κ (wL_law_27 sb L xs g κ f) (k9 + 3) (n9 + 18) l0 l1 l2 l3 l4 M26) (some b27) x22 x23 x24 M21) l1 x17 x18 x19 l3 M)) ∧ (¬ (x3 &&& 31) = 1 → (((x3 &&& 31) = 2 → m_sld l0 sb L xs (l4 + 1) fun x29 => m_sld l0 sb L xs (l4 + 2) fun x30 => m_sld l0 sb L xs (l4 + 3) fun x31 => m_sld l0 sb L xs (l4 + 4) fun x32 => ((k9 + 10 ≤ 601024 ∧ n9 + 57 ≤ 7293034) ∧ wL_gate g (fun x33 M34 => m_sld l0 sb L xs (l4 + 1) fun x35 => m_sld l0 sb L xs (l4 + 2) fun x36 => m_sld l0 sb L xs (l4 + 3) fun x37 => m_sld l0 sb L xs (l4 + 4) fun x38 => (((k9 + 10) + 4 ≤ 601024 ∧ (n9 + 57) + 118 ≤ 7293034) ∧ m_rc M34 l2 19 fun b41 => wX14_gate g (fun x39 M40 => wL_law_1259 sb L xs g κ (wL_law_27 sb L xs g κ f) ((k9 + 10) + 4) ((n9 + 57) + 118) l0 l1 l2 l3 l4 M40) (some b41) x35 x36 x37 x38 M34)) l1 x29 x30 x31 x32 l3 M)) ∧ (¬ (x3 &&& 31) = 2 → (((x3 &&& 31) = 3 → m_sld l0 sb L xs (l4 + 1) fun x43 => m_sld l0 sb L xs (l4 + 2) fun x44 => ((k9 + 2 ≤ 601024 ∧ n9 + 12 ≤ 7293034) ∧ wL_odds (fun x45 M46 => m_sld l0 sb L xs (l4 + 1) fun x47 => m_sld l0 sb L xs (l4 + 2) fun x48 => m_rc M46 l2 19 fun b51 => wX14_odds (fun x49 M50 => wL_law_1259 sb L xs g κ (wL_law_27 sb L xs g κ f) (k9 + 2) (n9 + 12) l0 l1 l2 l3 l4 M50) (some b51) x47 x48 M46) l1 x43 x44 l3 M)) ∧ (¬ (x3 &&& 31) = 3 → (((x3 &&& 31) = 4 → m_sld l0 sb L xs (l4 + 1) fun x53 => ((k9 + 1 ≤ 601024 ∧ n9 + 6 ≤ 7293034) ∧ wL_relieve (fun x54 M55 => m_sld l0 sb L xs (l4 + 1) fun x56 => m_rc M55 l2 19 fun b59 => wX14_relieve (fun x57 M58 => wL_law_1259 sb L xs g κ (wL_law_27 sb L xs g κ f) (k9 + 1) (n9 + 6) l0 l1 l2 l3 l4 M58) (some b59) x56 M55) l1 x53 l3 M)) ∧ (¬ (x3 &&& 31) = 4 → (((x3 &&& 31) = 5 → m_sld l0 sb L xs (l4 + 1) fun x61 => m_sld l0 sb L xs (l4 + 2) fun x62 => ((x62 = 0 → wL_law_421 sb L xs g κ (wL_law_27 sb L xs g κ f) k9 n9 l0 l1 l2 l3 l4 0 x61 l1 M) ∧ (¬ (x62 = 0) → wL_law_421 sb L xs g κ (wL_law_27 sb L xs g κ f) k9 n9 l0 l1 l2 l3 l4 1 x61 l1 M))) ∧ (¬ (x3 &&& 31) = 5 → (((x3 &&& 31) = 6 → m_sld l0 sb L xs (l4 + 1) fun x65 => m_sld l0 sb L xs (l4 + 2) fun x66 => m_sld l0 sb L xs (l4 + 3) fun x67 => m_sld l0 sb L xs (l4 + 4) fun x68 => ((k9 + 7 ≤ 601024 ∧ n9 + 71 ≤ 7293034) ∧ wL_part g (fun x69 M70 => m_sld l0 sb L xs (l4 + 1) fun x71 => m_sld l0 sb L xs (l4 + 2) fun x72 => m_sld l0 sb L xs (l4 + 3) fun x73 => m_sld l0 sb L xs (l4 + 4) fun x74 => (((k9 + 7) + 2 ≤ 601024 ∧ (n9 + 71) + 39 ≤ 7293034) ∧ m_rc M70 l2 19 fun b77 => wX14_part g (fun x75 M76 => wL_law_1259 sb L xs g κ (wL_law_27 sb L xs g κ f) ((k9 + 7) + 2) ((n9 + 71) + 39) l0 l1 l2 l3 l4 M76) (some b77) x71 x72 x73 x74 M70)) l1 x65 x66 x67 x68 l3 M)) ∧ (¬ (x3 &&& 31) = 6 → (((x3 &&& 31) = 7 → m_sld l0 sb L xs (l4 + 1) fun x79 => m_sld l0 sb L xs (l4 + 2) fun x80 => ((k9 + 3 ≤ 601024 ∧ n9 + 18 ≤ 7293034) ∧ wL_give (fun x81 M82 => m_sld l0 sb L xs (l4 + 1) fun x83 => m_sld l0 sb L xs (l4 + 2) fun x84 => m_rc M82 l2 19 fun b87 => wX14_give (fun x85 M86 => wL_law_1259 sb L xs g κ (wL_law_27 sb L xs g κ f) (k9 + 3) (n9 + 18) l0 l1 l2 l3 l4 M86) (some b87) x83 x84 M82) l1 x79 x80 l3 M)) ∧ (¬ (x3 &&& 31) = 7 → (((x3 &&& 31) = 8 → m_sld l0 sb L xs (l4 + 1) fun x89 => m_sld l0 sb L xs (l4 + 2) fun x90 => m_sld l0 sb L xs (l4 + 3) fun x91 => m_sld l0 sb L xs (l4 + 4) fun x92 => ((k9 + 5 ≤ 601024 ∧ n9 + 27 ≤ 7293034) ∧ wL_sing (fun x93 M94 => m_sld l0 sb L xs (l4 + 1) fun x95 => m_sld l0 sb L xs (l4 + 2) fun x96 => m_sld l0 sb L xs (l4 + 3) fun x97 => m_sld l0 sb L xs (l4 + 4) fun x98 => m_rc M94 l2 19 fun b101 => wX14_sing (fun x99 M100 => wL_law_1259 sb L xs g κ (wL_law_27 sb L xs g κ f) (k9 + 5) (n9 + 27) l0 l1 l2 l3 l4 M100) (some b101) x95 x96 x97 x98 M94) l1 x89 x90 x91 x92 l3 M)) ∧ (¬ (x3 &&& 31) = 8 → (((x3 &&& 31) = 9 → m_sld l0 sb L xs (l4 + 1) fun x103 => m_sld l0 sb L xs (l4 + 2) fun x104 => ((k9 + 2 ≤ 601024 ∧ n9 + 12 ≤ 7293034) ∧ wL_revoke (fun x105 M106 => m_sld l0 sb L xs (l4 + 1) fun x107 => m_sld l0 sb L xs (l4 + 2) fun x108 => m_rc M106 l2 19 fun b111 => wX14_revoke (fun x109 M110 => wL_law_1259 sb L xs g κ (wL_law_27 sb L xs g κ f) (k9 + 2) (n9 + 12) l0 l1 l2 l3 l4 M110) (some b111) x107 x108 M106) l1 x103 x104 l3 M)) ∧ (¬ (x3 &&& 31) = 9 → (((x3 &&& 31) = 10 → m_sld l0 sb L xs (l4 + 1) fun x113 => m_sld l0 sb L xs (l4 + 2) fun x114 => m_sld l0 sb L xs (l4 + 3) fun x115 => ((k9 + 4 ≤ 601024 ∧ n9 + 33 ≤ 7293034) ∧ wL_join g (fun x116 M117 => m_sld l0 sb L xs (l4 + 1) fun x118 => m_sld l0 sb L xs (l4 + 2) fun x119 => m_sld l0 sb L xs (l4 + 3) fun x120 => (((k9 + 4) + 1 ≤ 601024 ∧ (n9 + 33) + 15 ≤ 7293034) ∧ m_rc M117 l2 19 fun b123 => wX14_join g (fun x121 M122 => wL_law_1259 sb L xs g κ (wL_law_27 sb L xs g κ f) ((k9 + 4) + 1) ((n9 + 33) + 15) l0 l1 l2 l3 l4 M122) (some b123) x118 x119 x120 M117)) l1 x113 x114 x115 l3 M)) ∧ (¬ (x3 &&& 31) = 10 → (((x3 &&& 31) = 11 → m_sld l0 sb L xs (l4 + 1) fun x125 => ((k9 + 2 ≤ 601024 ∧ n9 + 12 ≤ 7293034) ∧ wL_leave (fun x126 M127 => m_sld l0 sb L xs (l4 + 1) fun x128 => m_rc M127 l2 19 fun b131 => wX14_leave (fun x129 M130 => wL_law_1259 sb L xs g κ (wL_law_27 sb L xs g κ f) (k9 + 2) (n9 + 12) l0 l1 l2 l3 l4 M130) (some b131) x128 M127) l1 x125 l3 M)) ∧ (¬ (x3 &&& 31) = 11 → (((x3 &&& 31) = 12 → m_sld l0 sb L xs (l4 + 1) fun x133 => ((k9 + 50 ≤ 601024 ∧ n9 + 1260 ≤ 7293034) ∧ wL_yawn g (fun x134 M135 => m_sld l0 sb L xs (l4 + 1) fun x136 => (((k9 + 50) + 72 ≤ 601024 ∧ (n9 + 1260) + 11736 ≤ 7293034) ∧ m_rc M135 l2 19 fun b139 => wX14_yawn g (fun x137 M138 => wL_law_1259 sb L xs g κ (wL_law_27 sb L xs g κ f) ((k9 + 50) + 72) ((n9 + 1260) + 11736) l0 l1 l2 l3 l4 M138) (some b139) x136 M135)) l1 x133 l3 M)) ∧ (¬ (x3 &&& 31) = 12 → (((x3 &&& 31) = 13 → m_sld l0 sb L xs (l4 + 1) fun x141 => ((k9 + 2 ≤ 601024 ∧ n9 + 12 ≤ 7293034) ∧ wL_appeal (fun x142 M143 => m_sld l0 sb L xs (l4 + 1) fun x144 => m_rc M143 l2 19 fun b147 => wX14_appeal (fun x145 M146 => wL_law_1259 sb L xs g κ (wL_law_27 sb L xs g κ f) (k9 + 2) (n9 + 12) l0 l1 l2 l3 l4 M146) (some b147) x144 M143) l1 x141 l3 M)) ∧ (¬ (x3 &&& 31) = 13 → (((x3 &&& 31) = 14 → m_sld l0 sb L xs (l4 + 1) fun x149 => ((k9 + 2 ≤ 601024 ∧ n9 + 12 ≤ 7293034) ∧ wL_pass (fun x150 M151 => m_sld l0 sb L xs (l4 + 1) fun x152 => (((k9 + 2) + 48 ≤ 601024 ∧ (n9 + 12) + 192 ≤ 7293034) ∧ m_rc M151 l2 19 fun b155 => wX14_pass (fun x153 M154 => wL_law_1259 sb L xs g κ (wL_law_27 sb L xs g κ f) ((k9 + 2) + 48) ((n9 + 12) + 192) l0 l1 l2 l3 l4 M154) (some b155) x152 M151)) l1 x149 l3 M)) ∧ (¬ (x3 &&& 31) = 14 → (((x3 &&& 31) = 15 → m_sld l0 sb L xs (l4 + 1) fun x157 => m_sld l0 sb L xs (l4 + 2) fun x158 => ((k9 + 2 ≤ 601024 ∧ n9 + 12 ≤ 7293034) ∧ wL_ofLand (fun x159 M160 => m_sld l0 sb L xs (l4 + 1) fun x161 => m_sld l0 sb L xs (l4 + 2) fun x162 => m_rc M160 l2 19 fun b165 => wX14_ofLand (fun x163 M164 => wL_law_1259 sb L xs g κ (wL_law_27 sb L xs g κ f) (k9 + 2) (n9 + 12) l0 l1 l2 l3 l4 M164) (some b165) x161 x162 M160) l1 x157 x158 l3 M)) ∧ (¬ (x3 &&& 31) = 15 → (((x3 &&& 31) = 16 → m_sld l0 sb L xs (l4 + 1) fun x167 => m_sld l0 sb L xs (l4 + 2) fun x168 => ((k9 + 2 ≤ 601024 ∧ n9 + 12 ≤ 7293034) ∧ wL_ofGate (fun x169 M170 => m_sld l0 sb L xs (l4 + 1) fun x171 => m_sld l0 sb L xs (l4 + 2) fun x172 => m_rc M170 l2 19 fun b175 => wX14_ofGate (fun x173 M174 => wL_law_1259 sb L xs g κ (wL_law_27 sb L xs g κ f) (k9 + 2) (n9 + 12) l0 l1 l2 l3 l4 M174) (some b175) x171 x172 M170) l1 x167 x168 l3 M)) ∧ (¬ (x3 &&& 31) = 16 → (((x3 &&& 31) = 17 → m_sld l0 sb L xs (l4 + 1) fun x177 => m_sld l0 sb L xs (l4 + 2) fun x178 => ((k9 + 2 ≤ 601024 ∧ n9 + 12 ≤ 7293034) ∧ wL_ofSleeper (fun x179 M180 => m_sld l0 sb L xs (l4 + 1) fun x181 => m_sld l0 sb L xs (l4 + 2) fun x182 => m_rc M180 l2 19 fun b185 => wX14_ofSleeper (fun x183 M184 => wL_law_1259 sb L xs g κ (wL_law_27 sb L xs g κ f) (k9 + 2) (n9 + 12) l0 l1 l2 l3 l4 M184) (some b185) x181 x182 M180) l1 x177 x178 l3 M)) ∧ (¬ (x3 &&& 31) = 17 → (((x3 &&& 31) = 18 → m_sld l0 sb L xs (l4 + 1) fun x187 => m_sld l0 sb L xs (l4 + 2) fun x188 => ((k9 + 2 ≤ 601024 ∧ n9 + 12 ≤ 7293034) ∧ wL_ofPart (fun x189 M190 => m_sld l0 sb L xs (l4 + 1) fun x191 => m_sld l0 sb L xs (l4 + 2) fun x192 => m_rc M190 l2 19 fun b195 => wX14_ofPart (fun x193 M194 => wL_law_1259 sb L xs g κ (wL_law_27 sb L xs g κ f) (k9 + 2) (n9 + 12) l0 l1 l2 l3 l4 M194) (some b195) x191 x192 M190) l1 x187 x188 l3 M)) ∧ (¬ (x3 &&& 31) = 18 → (((x3 &&& 31) = 19 → m_sld l0 sb L xs (l4 + 1) fun x197 => m_sld l0 sb L xs (l4 + 2) fun x198 => ((k9 + 2 ≤ 601024 ∧ n9 + 12 ≤ 7293034) ∧ wL_isGood (fun x199 M200 => m_sld l0 sb L xs (l4 + 1) fun x201 => m_sld l0 sb L xs (l4 + 2) fun x202 => m_rc M200 l2 19 fun b205 => wX14_isGood (fun x203 M204 => wL_law_1259 sb L xs g κ (wL_law_27 sb L xs g κ f) (k9 + 2) (n9 + 12) l0 l1 l2 l3 l4 M204) (some b205) x201 x202 M200) l1 x197 x198 l3 M)) ∧ (¬ (x3 &&& 31) = 19 → (((x3 &&& 31) = 20 → m_sld l0 sb L xs (l4 + 1) fun x207 => ((k9 + 81 ≤ 601024 ∧ n9 + 606 ≤ 7293034) ∧ wL_queue g (fun x208 M209 => m_sld l0 sb L xs (l4 + 1) fun x210 => (((k9 + 81) + 80 ≤ 601024 ∧ (n9 + 606) + 600 ≤ 7293034) ∧ m_rc M209 l2 19 fun b213 => wX14_queue g (fun x211 M212 => wL_law_1259 sb L xs g κ (wL_law_27 sb L xs g κ f) ((k9 + 81) + 80) ((n9 + 606) + 600) l0 l1 l2 l3 l4 M212) (some b213) x210 M209)) l1 x207 l3 M)) ∧ (¬ (x3 &&& 31) = 20 → (((x3 &&& 31) = 21 → m_sld l0 sb L xs (l4 + 1) fun x215 => ((k9 + 1 ≤ 601024 ∧ n9 + 6 ≤ 7293034) ∧ wL_night (fun x216 M217 => m_sld l0 sb L xs (l4 + 1) fun x218 => (((k9 + 1) + 1 ≤ 601024 ∧ (n9 + 6) + 4 ≤ 7293034) ∧ m_rc M217 l2 19 fun b221 => wX14_night (fun x219 M220 => m_rc M220 l2 19 fun b224 => wX14_thrown (fun x222 M223 => ((x222 = x216 → ((x216 = 0 → m_gJ M223 l3 14 0 fun x227 => (((lg_cmp x227 (Int32.toInt64 x219)) = 0 → wL_law_1122 sb L xs g κ (wL_law_27 sb L xs g κ f) ((k9 + 1) + 1) ((n9 + 6) + 4) l0 l1 l2 l3 l4 M223) ∧ (¬ ((lg_cmp x227 (Int32.toInt64 x219)) = 0) → ((((k9 + 1) + 1) ≤ 601024 ∧ ((n9 + 6) + 4) ≤ 7293034) ∧ κ 0 M223)))) ∧ (¬ (x216 = 0) → wL_law_1122 sb L xs g κ (wL_law_27 sb L xs g κ f) ((k9 + 1) + 1) ((n9 + 6) + 4) l0 l1 l2 l3 l4 M223))) ∧ (¬ (x222 = x216) → ((((k9 + 1) + 1) ≤ 601024 ∧ ((n9 + 6) + 4) ≤ 7293034) ∧ κ 0 M223)))) (some b224) M220) (some b221) x218 M217)) l1 x215 l3 M)) ∧ (¬ (x3 &&& 31) = 21 → (((x3 &&& 31) = 22 → m_sld l0 sb L xs (l4 + 1) fun x230 => m_sld l0 sb L xs (l4 + 2) fun x231 => ((k9 + 2 ≤ 601024 ∧ n9 + 12 ≤ 7293034) ∧ wL_way (fun x232 M233 => m_sld l0 sb L xs (l4 + 1) fun x234 => m_sld l0 sb L xs (l4 + 2) fun x235 => m_rc M233 l2 19 fun b238 => wX14_way (fun x236 M237 => wL_law_1259 sb L xs g κ (wL_law_27 sb L xs g κ f) (k9 + 2) (n9 + 12) l0 l1 l2 l3 l4 M237) (some b238) x234 x235 M233) l1 x230 x231 l3 M)) ∧ (¬ (x3 &&& 31) = 22 → (((x3 &&& 31) = 23 → m_sld l0 sb L xs (l4 + 1) fun x240 => m_sld l0 sb L xs (l4 + 2) fun x241 => ((k9 + 2 ≤ 601024 ∧ n9 + 12 ≤ 7293034) ∧ wL_plan (fun x242 M243 => m_sld l0 sb L xs (l4 + 1) fun x244 => m_sld l0 sb L xs (l4 + 2) fun x245 => (((k9 + 2) + 1 ≤ 601024 ∧ (n9 + 12) + 729 ≤ 7293034) ∧ m_rc M243 l2 19 fun b248 => wX14_plan (fun x246 M247 => wL_law_1259 sb L xs g κ (wL_law_27 sb L xs g κ f) ((k9 + 2) + 1) ((n9 + 12) + 729) l0 l1 l2 l3 l4 M247) (some b248) x244 x245 M243)) l1 x240 x241 l3 M)) ∧ (¬ (x3 &&& 31) = 23 → (((x3 &&& 31) = 24 → m_sld l0 sb L xs (l4 + 1) fun x250 => ((k9 + 1 ≤ 601024 ∧ n9 + 6 ≤ 7293034) ∧ wL_wouldPay (fun x251 M252 => m_sld l0 sb L xs (l4 + 1) fun x253 => m_rc M252 l2 19 fun b256 => wX14_wouldPay (fun x254 M255 => wL_law_1259 sb L xs g κ (wL_law_27 sb L xs g κ f) (k9 + 1) (n9 + 6) l0 l1 l2 l3 l4 M255) (some b256) x253 M252) l1 x250 l3 M)) ∧ (¬ (x3 &&& 31) = 24 → (((x3 &&& 31) = 25 → m_rc M l1 13 fun b260 => wX8_isSound (fun x258 M259 => ((k9 + 2 ≤ 601024 ∧ n9 + 16 ≤ 7293034) ∧ m_rc M259 l2 19 fun b263 => wX14_isSound (fun x261 M262 => wL_law_1259 sb L xs g κ (wL_law_27 sb L xs g κ f) (k9 + 2) (n9 + 16) l0 l1 l2 l3 l4 M262) (some b263) M259)) (some b260) M) ∧ (¬ (x3 &&& 31) = 25 → (((x3 &&& 31) = 26 → m_rc M l1 13 fun b267 => wX8_digest (fun x265 M266 => ((k9 + 20 ≤ 601024 ∧ n9 + 821 ≤ 7293034) ∧ m_rc M266 l2 19 fun b270 => wX14_digest (fun x268 M269 => wL_law_1259 sb L xs g κ (wL_law_27 sb L xs g κ f) (k9 + 20) (n9 + 821) l0 l1 l2 l3 l4 M269) (some b270) M266)) (some b267) M) ∧ (¬ (x3 &&& 31) = 26 → wL_law_1259 sb L xs g κ (wL_law_27 sb L xs g κ f) k9 n9 l0 l1 l2 l3 l4 M)))))))))))))))))))))))))))))))))))))))))))))))))))))))))
def wL_law (sb L : Nat) (xs : Nat → Int32) (g : Nat → Nat) (κ : Int32 → mM → Prop) (l0 : Option Nat) (M : mM) : Prop :=
    ((0 + 1 ≤ 601024 ∧ 0 + 11 ≤ 7293034) ∧ m_new M 13 [.null, .null, .null, .null, .null, .null, .null, .null, .int 0, .int 0, .int 0] fun q1 M2 => (((0 + 1) + 26 ≤ 601024 ∧ (0 + 11) + 900 ≤ 7293034) ∧ m_rc M2 (some q1) 13 fun b4 => wX8_init g (fun M3 => ((((0 + 1) + 26) + 1 ≤ 601024 ∧ ((0 + 11) + 900) + 13 ≤ 7293034) ∧ m_new M3 19 [.int 0, .int 0, .int 0, .int 0, .int 0, .int 0, .null, .null, .null, .null, .null, .null, .long 0] fun q5 M6 => (((((0 + 1) + 26) + 1) + 13 ≤ 601024 ∧ (((0 + 11) + 900) + 13) + 870 ≤ 7293034) ∧ m_rc M6 (some q5) 19 fun b8 => wX14_init g (fun M7 => ((((((0 + 1) + 26) + 1) + 13) + 1 ≤ 601024 ∧ ((((0 + 11) + 900) + 13) + 870) + 2 ≤ 7293034) ∧ m_new M7 14 [.long 0, .null] fun q9 M10 => m_rc M10 (some q9) 14 fun b12 => wX9_init (fun M11 => ∃ u : Nat, wL_law_27 sb L xs g κ u (((((0 + 1) + 26) + 1) + 13) + 1) (((((0 + 11) + 900) + 13) + 870) + 2) l0 (some q1) (some q5) (some q9) 0 M11) (some b12) M10)) (some b8) M6))) (some b4) M2))
