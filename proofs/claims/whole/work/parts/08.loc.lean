/-! what only reads: it answers alike where the places that it reads are alike -/
theorem lo_F8_sign {m m' : Mem} (h1_6 : rd m' 1 6 = rd m 1 6) (h1_1 : rd m' 1 1 = rd m 1 1) (h2 : ∀ i, rd m' 2 i = rd m 2 i) : F8_sign m' = F8_sign m := by
  unfold F8_sign
  simp only [h1_6, h1_1, h2]
theorem lo_F1_has {m m' : Mem} (h4_0 : rd m' 4 0 = rd m 4 0) {v1 : Int} : F1_has m' v1 = F1_has m v1 := by
  unfold F1_has
  simp only [h4_0]
theorem lo_F1_told {m m' : Mem} (h9 : ∀ i, rd m' 9 i = rd m 9 i) {v1 v2 : Int} : F1_told m' v1 v2 = F1_told m v1 v2 := by
  unfold F1_told
  simp only [h9]
theorem lo_F10_ofCharter {m m' : Mem} (h5 : ∀ i, rd m' 5 i = rd m 5 i) (h6 : ∀ i, rd m' 6 i = rd m 6 i) (h7 : ∀ i, rd m' 7 i = rd m 7 i) (h8 : ∀ i, rd m' 8 i = rd m 8 i) (h4_0 : rd m' 4 0 = rd m 4 0) (h9 : ∀ i, rd m' 9 i = rd m 9 i) {v1 v2 : Int} : F10_ofCharter m' v1 v2 = F10_ofCharter m v1 v2 := by
  unfold F10_ofCharter
  simp only [h5, h6, h7, h8, h4_0, h9, lo_F1_has h4_0, lo_F1_told h9]
theorem lo_L10_same_39 {m m' : Mem} (h9 : ∀ i, rd m' 9 i = rd m 9 i) {v1 : Int} {v2 : Int} {v3 : Int} : ∀ (n : Nat) (v4 v5 : Int), L10_same_39 m' v1 v2 v3 n v4 v5 = L10_same_39 m v1 v2 v3 n v4 v5 := by
  intro n
  induction n with
  | zero => intros; rfl
  | succ n ih =>
    intro v4 v5
    simp only [L10_same_39, h9, lo_F1_told h9, ih]
theorem lo_F10_same {m m' : Mem} (h4_0 : rd m' 4 0 = rd m 4 0) (h9 : ∀ i, rd m' 9 i = rd m 9 i) {v1 v2 v3 : Int} : F10_same m' v1 v2 v3 = F10_same m v1 v2 v3 := by
  unfold F10_same
  simp only [h4_0, h9, lo_F1_has h4_0, lo_L10_same_39 h9]
theorem lo_F1_motherOf {m m' : Mem} (h9 : ∀ i, rd m' 9 i = rd m 9 i) {v1 : Int} : F1_motherOf m' v1 = F1_motherOf m v1 := by
  unfold F1_motherOf
  simp only [h9]
theorem lo_L1_isUnder_5 {m m' : Mem} (h9 : ∀ i, rd m' 9 i = rd m 9 i) {v2 : Int} : ∀ (n : Nat) (v3 v4 : Int), L1_isUnder_5 m' v2 n v3 v4 = L1_isUnder_5 m v2 n v3 v4 := by
  intro n
  induction n with
  | zero => intros; rfl
  | succ n ih =>
    intro v3 v4
    simp only [L1_isUnder_5, h9, lo_F1_motherOf h9, ih]
theorem lo_F1_isUnder {m m' : Mem} (h9 : ∀ i, rd m' 9 i = rd m 9 i) {v1 v2 : Int} : F1_isUnder m' v1 v2 = F1_isUnder m v1 v2 := by
  unfold F1_isUnder
  simp only [h9, lo_L1_isUnder_5 h9]
theorem lo_F1_costOf {m m' : Mem} (h9 : ∀ i, rd m' 9 i = rd m 9 i) {v1 : Int} : F1_costOf m' v1 = F1_costOf m v1 := by
  unfold F1_costOf
  simp only [h9]
theorem lo_L0_placeOf_2 {m m' : Mem} (h31_2 : rd m' 31 2 = rd m 31 2) (h44 : ∀ i, rd m' 44 i = rd m 44 i) {v1 : Int} : ∀ (n : Nat) (v2 : Int), L0_placeOf_2 m' v1 n v2 = L0_placeOf_2 m v1 n v2 := by
  intro n
  induction n with
  | zero => intros; rfl
  | succ n ih =>
    intro v2
    simp only [L0_placeOf_2, h31_2, h44, ih]
theorem lo_F0_placeOf {m m' : Mem} (h31_2 : rd m' 31 2 = rd m 31 2) (h44 : ∀ i, rd m' 44 i = rd m 44 i) {v1 : Int} : F0_placeOf m' v1 = F0_placeOf m v1 := by
  unfold F0_placeOf
  simp only [h31_2, h44, lo_L0_placeOf_2 h31_2 h44]
theorem lo_L0_toldForms_4 {m m' : Mem} (h31_2 : rd m' 31 2 = rd m 31 2) (h44 : ∀ i, rd m' 44 i = rd m 44 i) (h9 : ∀ i, rd m' 9 i = rd m 9 i) {v1 : Int} : ∀ (n : Nat) (v2 v3 : Int), L0_toldForms_4 m' v1 n v2 v3 = L0_toldForms_4 m v1 n v2 v3 := by
  intro n
  induction n with
  | zero => intros; rfl
  | succ n ih =>
    intro v2 v3
    simp only [L0_toldForms_4, h31_2, h44, h9, lo_F1_told h9, ih]
theorem lo_F0_toldForms {m m' : Mem} (h31_2 : rd m' 31 2 = rd m 31 2) (h44 : ∀ i, rd m' 44 i = rd m 44 i) (h9 : ∀ i, rd m' 9 i = rd m 9 i) {v1 : Int} : F0_toldForms m' v1 = F0_toldForms m v1 := by
  unfold F0_toldForms
  simp only [h31_2, h44, h9, lo_L0_toldForms_4 h31_2 h44 h9]
theorem lo_L0_bound_24 {m m' : Mem} (h31_2 : rd m' 31 2 = rd m 31 2) (h44 : ∀ i, rd m' 44 i = rd m 44 i) (h9 : ∀ i, rd m' 9 i = rd m 9 i) {v1 : Int} : ∀ (n : Nat) (v2 v3 : Int), L0_bound_24 m' v1 n v2 v3 = L0_bound_24 m v1 n v2 v3 := by
  intro n
  induction n with
  | zero => intros; rfl
  | succ n ih =>
    intro v2 v3
    simp only [L0_bound_24, h31_2, h44, h9, lo_F0_toldForms h31_2 h44 h9, ih]
theorem lo_F0_bound {m m' : Mem} (h9 : ∀ i, rd m' 9 i = rd m 9 i) (h31_2 : rd m' 31 2 = rd m 31 2) (h44 : ∀ i, rd m' 44 i = rd m 44 i) : F0_bound m' = F0_bound m := by
  unfold F0_bound
  simp only [h9, h31_2, h44, lo_F1_costOf h9, lo_L0_bound_24 h31_2 h44 h9]
theorem lo_L0_entries_7 {m m' : Mem} (h9 : ∀ i, rd m' 9 i = rd m 9 i) {v1 : Int} {k77 : Int → Int → Option Int} : ∀ (n : Nat) (v2 v3 v4 : Int), L0_entries_7 m' v1 k77 n v2 v3 v4 = L0_entries_7 m v1 k77 n v2 v3 v4 := by
  intro n
  induction n with
  | zero => intros; rfl
  | succ n ih =>
    intro v2 v3 v4
    simp only [L0_entries_7, h9, lo_F1_costOf h9, ih]
theorem lo_F0_entries {m m' : Mem} (h9 : ∀ i, rd m' 9 i = rd m 9 i) {v1 : Int} : F0_entries m' v1 = F0_entries m v1 := by
  unfold F0_entries
  simp only [h9, lo_L0_entries_7 h9]
theorem lo_F0_chosen {m m' : Mem} (h47 : ∀ i, rd m' 47 i = rd m 47 i) (h31_2 : rd m' 31 2 = rd m 31 2) {v1 v2 : Int} : F0_chosen m' v1 v2 = F0_chosen m v1 v2 := by
  unfold F0_chosen
  simp only [h47, h31_2]
theorem lo_L0_closesRing_12 {m m' : Mem} (h31_2 : rd m' 31 2 = rd m 31 2) (h33 : ∀ i, rd m' 33 i = rd m 33 i) {v1 : Int} {k45 : Int → Option Int} : ∀ (n : Nat) (v2 v3 : Int), L0_closesRing_12 m' v1 k45 n v2 v3 = L0_closesRing_12 m v1 k45 n v2 v3 := by
  intro n
  induction n with
  | zero => intros; rfl
  | succ n ih =>
    intro v2 v3
    simp only [L0_closesRing_12, h31_2, h33, ih]
theorem lo_F0_closesRing {m m' : Mem} (h33 : ∀ i, rd m' 33 i = rd m 33 i) (h31_2 : rd m' 31 2 = rd m 31 2) {v1 : Int} : F0_closesRing m' v1 = F0_closesRing m v1 := by
  unfold F0_closesRing
  simp only [h33, h31_2, lo_L0_closesRing_12 h31_2 h33]
theorem lo_L0_sure_4 {m m' : Mem} (h31_2 : rd m' 31 2 = rd m 31 2) (h46 : ∀ i, rd m' 46 i = rd m 46 i) : ∀ (n : Nat) (v1 v2 : Int), L0_sure_4 m' n v1 v2 = L0_sure_4 m n v1 v2 := by
  intro n
  induction n with
  | zero => intros; rfl
  | succ n ih =>
    intro v1 v2
    simp only [L0_sure_4, h31_2, h46, ih]
theorem lo_F0_sure {m m' : Mem} (h31_2 : rd m' 31 2 = rd m 31 2) (h46 : ∀ i, rd m' 46 i = rd m 46 i) : F0_sure m' = F0_sure m := by
  unfold F0_sure
  simp only [h31_2, h46, lo_L0_sure_4 h31_2 h46]
theorem lo_F0_motherPlace {m m' : Mem} (h45 : ∀ i, rd m' 45 i = rd m 45 i) (h47 : ∀ i, rd m' 47 i = rd m 47 i) (h31_2 : rd m' 31 2 = rd m 31 2) {v1 v2 : Int} : F0_motherPlace m' v1 v2 = F0_motherPlace m v1 v2 := by
  unfold F0_motherPlace
  simp only [h45, h47, h31_2, lo_F0_chosen h47 h31_2]
theorem lo_F0_neverMothers {m m' : Mem} (h46 : ∀ i, rd m' 46 i = rd m 46 i) (h31_2 : rd m' 31 2 = rd m 31 2) {v1 : Int} : F0_neverMothers m' v1 = F0_neverMothers m v1 := by
  unfold F0_neverMothers
  simp only [h46, h31_2]
theorem lo_F0_borneOut {m m' : Mem} (h46 : ∀ i, rd m' 46 i = rd m 46 i) {v1 v2 : Int} : F0_borneOut m' v1 v2 = F0_borneOut m v1 v2 := by
  unfold F0_borneOut
  simp only [h46]
theorem lo_F4_filledForm {m m' : Mem} (h27 : ∀ i, rd m' 27 i = rd m 27 i) {v1 v2 : Int} : F4_filledForm m' v1 v2 = F4_filledForm m v1 v2 := by
  unfold F4_filledForm
  simp only [h27]
theorem lo_F4_lends {m m' : Mem} (h6 : ∀ i, rd m' 6 i = rd m 6 i) (h5 : ∀ i, rd m' 5 i = rd m 5 i) (h9 : ∀ i, rd m' 9 i = rd m 9 i) {v1 v2 : Int} : F4_lends m' v1 v2 = F4_lends m v1 v2 := by
  unfold F4_lends
  simp only [h6, h5, h9, lo_F1_motherOf h9, lo_F1_isUnder h9]
theorem lo_L4_leastLender_2 {m m' : Mem} (h4_0 : rd m' 4 0 = rd m 4 0) (h27 : ∀ i, rd m' 27 i = rd m 27 i) (h6 : ∀ i, rd m' 6 i = rd m 6 i) (h5 : ∀ i, rd m' 5 i = rd m 5 i) (h9 : ∀ i, rd m' 9 i = rd m 9 i) {v1 : Int} {v2 : Int} : ∀ (n : Nat) (v3 : Int), L4_leastLender_2 m' v1 v2 n v3 = L4_leastLender_2 m v1 v2 n v3 := by
  intro n
  induction n with
  | zero => intros; rfl
  | succ n ih =>
    intro v3
    simp only [L4_leastLender_2, h4_0, h27, h6, h5, h9, lo_F4_filledForm h27, lo_F4_lends h6 h5 h9, ih]
theorem lo_F4_leastLender {m m' : Mem} (h4_0 : rd m' 4 0 = rd m 4 0) (h27 : ∀ i, rd m' 27 i = rd m 27 i) (h6 : ∀ i, rd m' 6 i = rd m 6 i) (h5 : ∀ i, rd m' 5 i = rd m 5 i) (h9 : ∀ i, rd m' 9 i = rd m 9 i) {v1 v2 : Int} : F4_leastLender m' v1 v2 = F4_leastLender m v1 v2 := by
  unfold F4_leastLender
  simp only [h4_0, h27, h6, h5, h9, lo_L4_leastLender_2 h4_0 h27 h6 h5 h9]
theorem lo_L3_clash_5 {m m' : Mem} (h4_0 : rd m' 4 0 = rd m 4 0) (h9 : ∀ i, rd m' 9 i = rd m 9 i) {v1 : Int} {v2 : Int} {k87 : Int → Option Int} : ∀ (n : Nat) (v3 v4 : Int), L3_clash_5 m' v1 v2 k87 n v3 v4 = L3_clash_5 m v1 v2 k87 n v3 v4 := by
  intro n
  induction n with
  | zero => intros; rfl
  | succ n ih =>
    intro v3 v4
    simp only [L3_clash_5, h4_0, h9, lo_F1_told h9, ih]
theorem lo_F3_clash {m m' : Mem} (h4_0 : rd m' 4 0 = rd m 4 0) (h9 : ∀ i, rd m' 9 i = rd m 9 i) {v1 v2 : Int} : F3_clash m' v1 v2 = F3_clash m v1 v2 := by
  unfold F3_clash
  simp only [h4_0, h9, lo_L3_clash_5 h4_0 h9]
theorem lo_L3_pair_15 {m m' : Mem} (h4_0 : rd m' 4 0 = rd m 4 0) (h9 : ∀ i, rd m' 9 i = rd m 9 i) {v1 : Int} {v3 : Int} {k54 : Int → Option Int} {k37 : Int → Option Int} : ∀ (n : Nat) (v2 v4 : Int), L3_pair_15 m' v1 v3 k54 k37 n v2 v4 = L3_pair_15 m v1 v3 k54 k37 n v2 v4 := by
  intro n
  induction n with
  | zero => intros; rfl
  | succ n ih =>
    intro v2 v4
    simp only [L3_pair_15, h4_0, h9, lo_F3_clash h4_0 h9, ih]
theorem lo_L3_pair_4 {m m' : Mem} (h4_0 : rd m' 4 0 = rd m 4 0) (h9 : ∀ i, rd m' 9 i = rd m 9 i) {v1 : Int} {k60 : Int → Option Int} {k37 : Int → Int → Option Int} : ∀ (n : Nat) (v2 v3 : Int), L3_pair_4 m' v1 k60 k37 n v2 v3 = L3_pair_4 m v1 k60 k37 n v2 v3 := by
  intro n
  induction n with
  | zero => intros; rfl
  | succ n ih =>
    intro v2 v3
    simp only [L3_pair_4, h4_0, h9, lo_L3_pair_15 h4_0 h9, ih]
theorem lo_F3_pair {m m' : Mem} (h4_0 : rd m' 4 0 = rd m 4 0) (h9 : ∀ i, rd m' 9 i = rd m 9 i) {v1 : Int} : F3_pair m' v1 = F3_pair m v1 := by
  unfold F3_pair
  simp only [h4_0, h9, lo_L3_pair_4 h4_0 h9]
theorem lo_F10_pairs {m m' : Mem} (h4_0 : rd m' 4 0 = rd m 4 0) (h9 : ∀ i, rd m' 9 i = rd m 9 i) {v1 : Int} : F10_pairs m' v1 = F10_pairs m v1 := by
  unfold F10_pairs
  simp only [h4_0, h9, lo_F3_pair h4_0 h9]
theorem lo_L3_frees_2 {m m' : Mem} (h52 : ∀ i, rd m' 52 i = rd m 52 i) {v1 : Int} : ∀ (n : Nat) (v2 : Int), L3_frees_2 m' v1 n v2 = L3_frees_2 m v1 n v2 := by
  intro n
  induction n with
  | zero => intros; rfl
  | succ n ih =>
    intro v2
    simp only [L3_frees_2, h52, ih]
theorem lo_F3_frees {m m' : Mem} (h52 : ∀ i, rd m' 52 i = rd m 52 i) {v1 : Int} : F3_frees m' v1 = F3_frees m v1 := by
  unfold F3_frees
  simp only [h52, lo_L3_frees_2 h52]
theorem lo_L10_digest_34 {m m' : Mem} (h9 : ∀ i, rd m' 9 i = rd m 9 i) {v2 : Int} {k61 : Int → Option Int} : ∀ (n : Nat) (v1 v3 : Int), L10_digest_34 m' v2 k61 n v1 v3 = L10_digest_34 m v2 k61 n v1 v3 := by
  intro n
  induction n with
  | zero => intros; rfl
  | succ n ih =>
    intro v1 v3
    simp only [L10_digest_34, h9, lo_F1_told h9, ih]
theorem lo_L10_digest_5 {m m' : Mem} (h4_0 : rd m' 4 0 = rd m 4 0) (h9 : ∀ i, rd m' 9 i = rd m 9 i) {k67 : Int → Option Int} : ∀ (n : Nat) (v1 v2 : Int), L10_digest_5 m' k67 n v1 v2 = L10_digest_5 m k67 n v1 v2 := by
  intro n
  induction n with
  | zero => intros; rfl
  | succ n ih =>
    intro v1 v2
    simp only [L10_digest_5, h4_0, h9, lo_F1_motherOf h9, lo_L10_digest_34 h9, ih]
theorem lo_L10_digest_69 {m m' : Mem} (h9 : ∀ i, rd m' 9 i = rd m 9 i) : ∀ (n : Nat) (v1 v2 : Int), L10_digest_69 m' n v1 v2 = L10_digest_69 m n v1 v2 := by
  intro n
  induction n with
  | zero => intros; rfl
  | succ n ih =>
    intro v1 v2
    simp only [L10_digest_69, h9, lo_F1_costOf h9, ih]
theorem lo_F10_digest {m m' : Mem} (h4_0 : rd m' 4 0 = rd m 4 0) (h9 : ∀ i, rd m' 9 i = rd m 9 i) : F10_digest m' = F10_digest m := by
  unfold F10_digest
  simp only [h4_0, h9, lo_L10_digest_5 h4_0 h9, lo_L10_digest_69 h9]
theorem lo_F5_has {m m' : Mem} (h66_0 : rd m' 66 0 = rd m 66 0) {v1 : Int} : F5_has m' v1 = F5_has m v1 := by
  unfold F5_has
  simp only [h66_0]
theorem lo_F10_trace {m m' : Mem} (h66_1 : rd m' 66 1 = rd m 66 1) (h68 : ∀ i, rd m' 68 i = rd m 68 i) {v1 : Int} : F10_trace m' v1 = F10_trace m v1 := by
  unfold F10_trace
  simp only [h66_1, h68]
theorem lo_F10_count {m m' : Mem} (h4_0 : rd m' 4 0 = rd m 4 0) (h1_1 : rd m' 1 1 = rd m 1 1) (h31_2 : rd m' 31 2 = rd m 31 2) (h4_10 : rd m' 4 10 = rd m 4 10) (h66_0 : rd m' 66 0 = rd m 66 0) (h66_1 : rd m' 66 1 = rd m 66 1) {v1 : Int} : F10_count m' v1 = F10_count m v1 := by
  unfold F10_count
  simp only [h4_0, h1_1, h31_2, h4_10, h66_0, h66_1]
theorem lo_F11_isCharter {m m' : Mem} (h83_1 : rd m' 83 1 = rd m 83 1) {v1 : Int} : F11_isCharter m' v1 = F11_isCharter m v1 := by
  unfold F11_isCharter
  simp only [h83_1]
theorem lo_F11_look {m m' : Mem} (h83_10 : rd m' 83 10 = rd m 83 10) (h83_11 : rd m' 83 11 = rd m 83 11) (h91 : ∀ i, rd m' 91 i = rd m 91 i) : F11_look m' = F11_look m := by
  unfold F11_look
  simp only [h83_10, h83_11, h91]
theorem lo_F11_ofCharter {m m' : Mem} (h84 : ∀ i, rd m' 84 i = rd m 84 i) (h85 : ∀ i, rd m' 85 i = rd m 85 i) (h86 : ∀ i, rd m' 86 i = rd m 86 i) (h87 : ∀ i, rd m' 87 i = rd m 87 i) (h89 : ∀ i, rd m' 89 i = rd m 89 i) (h83_1 : rd m' 83 1 = rd m 83 1) {v1 v2 : Int} : F11_ofCharter m' v1 v2 = F11_ofCharter m v1 v2 := by
  unfold F11_ofCharter
  simp only [h84, h85, h86, h87, h89, h83_1, lo_F11_isCharter h83_1]
theorem lo_F11_valueAt {m m' : Mem} (h88 : ∀ i, rd m' 88 i = rd m 88 i) (h90 : ∀ i, rd m' 90 i = rd m 90 i) (h89 : ∀ i, rd m' 89 i = rd m 89 i) {v1 v2 : Int} : F11_valueAt m' v1 v2 = F11_valueAt m v1 v2 := by
  unfold F11_valueAt
  simp only [h88, h90, h89]
theorem lo_L11_same_33 {m m' : Mem} (h89 : ∀ i, rd m' 89 i = rd m 89 i) {v1 : Int} {v2 : Int} {v3 : Int} : ∀ (n : Nat) (v4 v5 : Int), L11_same_33 m' v1 v2 v3 n v4 v5 = L11_same_33 m v1 v2 v3 n v4 v5 := by
  intro n
  induction n with
  | zero => intros; rfl
  | succ n ih =>
    intro v4 v5
    simp only [L11_same_33, h89, ih]
theorem lo_F11_same {m m' : Mem} (h83_1 : rd m' 83 1 = rd m 83 1) (h89 : ∀ i, rd m' 89 i = rd m 89 i) {v1 v2 v3 : Int} : F11_same m' v1 v2 v3 = F11_same m v1 v2 v3 := by
  unfold F11_same
  simp only [h83_1, h89, lo_F11_isCharter h83_1, lo_L11_same_33 h89]
theorem lo_L11_digest_29 {m m' : Mem} (h89 : ∀ i, rd m' 89 i = rd m 89 i) {v2 : Int} {k58 : Int → Option Int} : ∀ (n : Nat) (v1 v3 : Int), L11_digest_29 m' v2 k58 n v1 v3 = L11_digest_29 m v2 k58 n v1 v3 := by
  intro n
  induction n with
  | zero => intros; rfl
  | succ n ih =>
    intro v1 v3
    simp only [L11_digest_29, h89, ih]
theorem lo_L11_digest_5 {m m' : Mem} (h83_1 : rd m' 83 1 = rd m 83 1) (h88 : ∀ i, rd m' 88 i = rd m 88 i) (h89 : ∀ i, rd m' 89 i = rd m 89 i) {k64 : Int → Option Int} : ∀ (n : Nat) (v1 v2 : Int), L11_digest_5 m' k64 n v1 v2 = L11_digest_5 m k64 n v1 v2 := by
  intro n
  induction n with
  | zero => intros; rfl
  | succ n ih =>
    intro v1 v2
    simp only [L11_digest_5, h83_1, h88, h89, lo_L11_digest_29 h89, ih]
theorem lo_L11_digest_66 {m m' : Mem} (h90 : ∀ i, rd m' 90 i = rd m 90 i) : ∀ (n : Nat) (v1 v2 : Int), L11_digest_66 m' n v1 v2 = L11_digest_66 m n v1 v2 := by
  intro n
  induction n with
  | zero => intros; rfl
  | succ n ih =>
    intro v1 v2
    simp only [L11_digest_66, h90, ih]
theorem lo_F11_digest {m m' : Mem} (h83_1 : rd m' 83 1 = rd m 83 1) (h88 : ∀ i, rd m' 88 i = rd m 88 i) (h89 : ∀ i, rd m' 89 i = rd m 89 i) (h90 : ∀ i, rd m' 90 i = rd m 90 i) : F11_digest m' = F11_digest m := by
  unfold F11_digest
  simp only [h83_1, h88, h89, h90, lo_L11_digest_5 h83_1 h88 h89, lo_L11_digest_66 h90]
theorem lo_L11_isAbove_2 {m m' : Mem} (h88 : ∀ i, rd m' 88 i = rd m 88 i) {v1 : Int} : ∀ (n : Nat) (v3 : Int), L11_isAbove_2 m' v1 n v3 = L11_isAbove_2 m v1 n v3 := by
  intro n
  induction n with
  | zero => intros; rfl
  | succ n ih =>
    intro v3
    simp only [L11_isAbove_2, h88, ih]
theorem lo_F11_isAbove {m m' : Mem} (h88 : ∀ i, rd m' 88 i = rd m 88 i) {v1 v2 : Int} : F11_isAbove m' v1 v2 = F11_isAbove m v1 v2 := by
  unfold F11_isAbove
  simp only [h88, lo_L11_isAbove_2 h88]
theorem lo_F11_priceOf {m m' : Mem} (h90 : ∀ i, rd m' 90 i = rd m 90 i) {v1 v2 : Int} : F11_priceOf m' v1 v2 = F11_priceOf m v1 v2 := by
  unfold F11_priceOf
  simp only [h90]
theorem lo_L11_isOrdered_2 {m m' : Mem} (h83_24 : rd m' 83 24 = rd m 83 24) (h100 : ∀ i, rd m' 100 i = rd m 100 i) {v1 : Int} : ∀ (n : Nat) (v2 : Int), L11_isOrdered_2 m' v1 n v2 = L11_isOrdered_2 m v1 n v2 := by
  intro n
  induction n with
  | zero => intros; rfl
  | succ n ih =>
    intro v2
    simp only [L11_isOrdered_2, h83_24, h100, ih]
theorem lo_F11_isOrdered {m m' : Mem} (h83_24 : rd m' 83 24 = rd m 83 24) (h100 : ∀ i, rd m' 100 i = rd m 100 i) {v1 : Int} : F11_isOrdered m' v1 = F11_isOrdered m v1 := by
  unfold F11_isOrdered
  simp only [h83_24, h100, lo_L11_isOrdered_2 h83_24 h100]
theorem lo_F11_mayBe {m m' : Mem} (h83_25 : rd m' 83 25 = rd m 83 25) (h89 : ∀ i, rd m' 89 i = rd m 89 i) {v1 v2 v3 : Int} : F11_mayBe m' v1 v2 v3 = F11_mayBe m v1 v2 v3 := by
  unfold F11_mayBe
  simp only [h83_25, h89]
theorem lo_L11_leastFrom_6 {m m' : Mem} (h98 : ∀ i, rd m' 98 i = rd m 98 i) (h90 : ∀ i, rd m' 90 i = rd m 90 i) {v1 : Int} {v2 : Int} : ∀ (n : Nat) (v3 v4 : Int), L11_leastFrom_6 m' v1 v2 n v3 v4 = L11_leastFrom_6 m v1 v2 n v3 v4 := by
  intro n
  induction n with
  | zero => intros; rfl
  | succ n ih =>
    intro v3 v4
    simp only [L11_leastFrom_6, h98, h90, lo_F11_priceOf h90, ih]
theorem lo_F11_leastFrom {m m' : Mem} (h98 : ∀ i, rd m' 98 i = rd m 98 i) (h90 : ∀ i, rd m' 90 i = rd m 90 i) {v1 v2 : Int} : F11_leastFrom m' v1 v2 = F11_leastFrom m v1 v2 := by
  unfold F11_leastFrom
  simp only [h98, h90, lo_L11_leastFrom_6 h98 h90]
theorem lo_L11_placeOf_2 {m m' : Mem} (h83_28 : rd m' 83 28 = rd m 83 28) (h103 : ∀ i, rd m' 103 i = rd m 103 i) {v1 : Int} : ∀ (n : Nat) (v2 : Int), L11_placeOf_2 m' v1 n v2 = L11_placeOf_2 m v1 n v2 := by
  intro n
  induction n with
  | zero => intros; rfl
  | succ n ih =>
    intro v2
    simp only [L11_placeOf_2, h83_28, h103, ih]
theorem lo_F11_placeOf {m m' : Mem} (h83_28 : rd m' 83 28 = rd m 83 28) (h103 : ∀ i, rd m' 103 i = rd m 103 i) {v1 : Int} : F11_placeOf m' v1 = F11_placeOf m v1 := by
  unfold F11_placeOf
  simp only [h83_28, h103, lo_L11_placeOf_2 h83_28 h103]
theorem lo_L11_isOneTree_14 {m m' : Mem} (h83_28 : rd m' 83 28 = rd m 83 28) (h104 : ∀ i, rd m' 104 i = rd m 104 i) {k41 : Int → Option Int} : ∀ (n : Nat) (v2 v3 : Int), L11_isOneTree_14 m' k41 n v2 v3 = L11_isOneTree_14 m k41 n v2 v3 := by
  intro n
  induction n with
  | zero => intros; rfl
  | succ n ih =>
    intro v2 v3
    simp only [L11_isOneTree_14, h83_28, h104, ih]
theorem lo_L11_isOneTree_2 {m m' : Mem} (h83_28 : rd m' 83 28 = rd m 83 28) (h104 : ∀ i, rd m' 104 i = rd m 104 i) : ∀ (n : Nat) (v1 : Int), L11_isOneTree_2 m' n v1 = L11_isOneTree_2 m n v1 := by
  intro n
  induction n with
  | zero => intros; rfl
  | succ n ih =>
    intro v1
    simp only [L11_isOneTree_2, h83_28, h104, lo_L11_isOneTree_14 h83_28 h104, ih]
theorem lo_F11_isOneTree {m m' : Mem} (h83_28 : rd m' 83 28 = rd m 83 28) (h104 : ∀ i, rd m' 104 i = rd m 104 i) : F11_isOneTree m' = F11_isOneTree m := by
  unfold F11_isOneTree
  simp only [h83_28, h104, lo_L11_isOneTree_2 h83_28 h104]
theorem lo_L11_boundNow_15 {m m' : Mem} (h83_28 : rd m' 83 28 = rd m 83 28) (h103 : ∀ i, rd m' 103 i = rd m 103 i) (h89 : ∀ i, rd m' 89 i = rd m 89 i) {v2 : Int} {k66 : Int → Option Int} : ∀ (n : Nat) (v3 v4 : Int), L11_boundNow_15 m' v2 k66 n v3 v4 = L11_boundNow_15 m v2 k66 n v3 v4 := by
  intro n
  induction n with
  | zero => intros; rfl
  | succ n ih =>
    intro v3 v4
    simp only [L11_boundNow_15, h83_28, h103, h89, ih]
theorem lo_L11_boundNow_4 {m m' : Mem} (h90 : ∀ i, rd m' 90 i = rd m 90 i) (h83_28 : rd m' 83 28 = rd m 83 28) (h103 : ∀ i, rd m' 103 i = rd m 103 i) (h89 : ∀ i, rd m' 89 i = rd m 89 i) : ∀ (n : Nat) (v1 v2 : Int), L11_boundNow_4 m' n v1 v2 = L11_boundNow_4 m n v1 v2 := by
  intro n
  induction n with
  | zero => intros; rfl
  | succ n ih =>
    intro v1 v2
    simp only [L11_boundNow_4, h90, h83_28, h103, h89, lo_L11_boundNow_15 h83_28 h103 h89, ih]
theorem lo_F11_boundNow {m m' : Mem} (h90 : ∀ i, rd m' 90 i = rd m 90 i) (h83_28 : rd m' 83 28 = rd m 83 28) (h103 : ∀ i, rd m' 103 i = rd m 103 i) (h89 : ∀ i, rd m' 89 i = rd m 89 i) : F11_boundNow m' = F11_boundNow m := by
  unfold F11_boundNow
  simp only [h90, h83_28, h103, h89, lo_L11_boundNow_4 h90 h83_28 h103 h89]
theorem lo_F11_canLend {m m' : Mem} (h88 : ∀ i, rd m' 88 i = rd m 88 i) (h85 : ∀ i, rd m' 85 i = rd m 85 i) (h84 : ∀ i, rd m' 84 i = rd m 84 i) {v1 v2 : Int} : F11_canLend m' v1 v2 = F11_canLend m v1 v2 := by
  unfold F11_canLend
  simp only [h88, h85, h84, lo_F11_isAbove h88]
theorem lo_F11_baseOf {m m' : Mem} (h88 : ∀ i, rd m' 88 i = rd m 88 i) (h107 : ∀ i, rd m' 107 i = rd m 107 i) (h90 : ∀ i, rd m' 90 i = rd m 90 i) {v1 v2 : Int} : F11_baseOf m' v1 v2 = F11_baseOf m v1 v2 := by
  unfold F11_baseOf
  simp only [h88, h107, h90, lo_F11_priceOf h90]
theorem lo_F11_isAlike {m m' : Mem} (h107 : ∀ i, rd m' 107 i = rd m 107 i) {v1 v2 v3 : Int} : F11_isAlike m' v1 v2 v3 = F11_isAlike m v1 v2 v3 := by
  unfold F11_isAlike
  simp only [h107]
theorem lo_L11_canBorrow_2 {m m' : Mem} (h83_1 : rd m' 83 1 = rd m 83 1) (h88 : ∀ i, rd m' 88 i = rd m 88 i) (h85 : ∀ i, rd m' 85 i = rd m 85 i) (h84 : ∀ i, rd m' 84 i = rd m 84 i) (h107 : ∀ i, rd m' 107 i = rd m 107 i) {v1 : Int} {v2 : Int} : ∀ (n : Nat) (v3 : Int), L11_canBorrow_2 m' v1 v2 n v3 = L11_canBorrow_2 m v1 v2 n v3 := by
  intro n
  induction n with
  | zero => intros; rfl
  | succ n ih =>
    intro v3
    simp only [L11_canBorrow_2, h83_1, h88, h85, h84, h107, lo_F11_canLend h88 h85 h84, lo_F11_isAlike h107, ih]
theorem lo_F11_canBorrow {m m' : Mem} (h83_1 : rd m' 83 1 = rd m 83 1) (h88 : ∀ i, rd m' 88 i = rd m 88 i) (h85 : ∀ i, rd m' 85 i = rd m 85 i) (h84 : ∀ i, rd m' 84 i = rd m 84 i) (h107 : ∀ i, rd m' 107 i = rd m 107 i) {v1 v2 : Int} : F11_canBorrow m' v1 v2 = F11_canBorrow m v1 v2 := by
  unfold F11_canBorrow
  simp only [h83_1, h88, h85, h84, h107, lo_L11_canBorrow_2 h83_1 h88 h85 h84 h107]
theorem lo_L11_doClash_5 {m m' : Mem} (h83_1 : rd m' 83 1 = rd m 83 1) (h89 : ∀ i, rd m' 89 i = rd m 89 i) {v1 : Int} {v2 : Int} {k88 : Int → Option Int} : ∀ (n : Nat) (v3 v4 : Int), L11_doClash_5 m' v1 v2 k88 n v3 v4 = L11_doClash_5 m v1 v2 k88 n v3 v4 := by
  intro n
  induction n with
  | zero => intros; rfl
  | succ n ih =>
    intro v3 v4
    simp only [L11_doClash_5, h83_1, h89, ih]
theorem lo_F11_doClash {m m' : Mem} (h83_1 : rd m' 83 1 = rd m 83 1) (h89 : ∀ i, rd m' 89 i = rd m 89 i) {v1 v2 : Int} : F11_doClash m' v1 v2 = F11_doClash m v1 v2 := by
  unfold F11_doClash
  simp only [h83_1, h89, lo_L11_doClash_5 h83_1 h89]
theorem lo_L11_frees_2 {m m' : Mem} (h83_40 : rd m' 83 40 = rd m 83 40) (h111 : ∀ i, rd m' 111 i = rd m 111 i) {v1 : Int} : ∀ (n : Nat) (v2 : Int), L11_frees_2 m' v1 n v2 = L11_frees_2 m v1 n v2 := by
  intro n
  induction n with
  | zero => intros; rfl
  | succ n ih =>
    intro v2
    simp only [L11_frees_2, h83_40, h111, ih]
theorem lo_F11_frees {m m' : Mem} (h83_40 : rd m' 83 40 = rd m 83 40) (h111 : ∀ i, rd m' 111 i = rd m 111 i) {v1 : Int} : F11_frees m' v1 = F11_frees m v1 := by
  unfold F11_frees
  simp only [h83_40, h111, lo_L11_frees_2 h83_40 h111]
theorem lo_L11_numberAt_35 {m m' : Mem} (h114 : ∀ i, rd m' 114 i = rd m 114 i) {v1 : Int} {v2 : Int} : ∀ (n : Nat) (v3 v4 : Int), L11_numberAt_35 m' v1 v2 n v3 v4 = L11_numberAt_35 m v1 v2 n v3 v4 := by
  intro n
  induction n with
  | zero => intros; rfl
  | succ n ih =>
    intro v3 v4
    simp only [L11_numberAt_35, h114, ih]
theorem lo_F11_numberAt {m m' : Mem} (h115 : ∀ i, rd m' 115 i = rd m 115 i) (h114 : ∀ i, rd m' 114 i = rd m 114 i) {v1 : Int} : F11_numberAt m' v1 = F11_numberAt m v1 := by
  unfold F11_numberAt
  simp only [h115, h114, lo_L11_numberAt_35 h114]
theorem lo_F11_isBody {m m' : Mem} (h83_46 : rd m' 83 46 = rd m 83 46) {v1 : Int} : F11_isBody m' v1 = F11_isBody m v1 := by
  unfold F11_isBody
  simp only [h83_46]
theorem lo_F11_trace {m m' : Mem} (h83_49 : rd m' 83 49 = rd m 83 49) (h118 : ∀ i, rd m' 118 i = rd m 118 i) {v1 : Int} : F11_trace m' v1 = F11_trace m v1 := by
  unfold F11_trace
  simp only [h83_49, h118]
theorem lo_F11_count {m m' : Mem} (h83_1 : rd m' 83 1 = rd m 83 1) (h83_10 : rd m' 83 10 = rd m 83 10) (h83_28 : rd m' 83 28 = rd m 83 28) (h83_13 : rd m' 83 13 = rd m 83 13) (h83_46 : rd m' 83 46 = rd m 83 46) (h83_49 : rd m' 83 49 = rd m 83 49) {v1 : Int} : F11_count m' v1 = F11_count m v1 := by
  unfold F11_count
  simp only [h83_1, h83_10, h83_28, h83_13, h83_46, h83_49]
theorem lo_F11_whyNoPlace {m m' : Mem} (h119 : ∀ i, rd m' 119 i = rd m 119 i) (h120 : ∀ i, rd m' 120 i = rd m 120 i) {v1 v2 : Int} : F11_whyNoPlace m' v1 v2 = F11_whyNoPlace m v1 v2 := by
  unfold F11_whyNoPlace
  simp only [h119, h120]
theorem lo_F11_element {m m' : Mem} (hl121 : ∀ i, rl m' 121 i = rl m 121 i) (h119 : ∀ i, rd m' 119 i = rd m 119 i) (h120 : ∀ i, rd m' 120 i = rd m 120 i) {v1 v2 : Int} : F11_element m' v1 v2 = F11_element m v1 v2 := by
  unfold F11_element
  simp only [hl121, h119, h120, lo_F11_whyNoPlace h119 h120]
theorem lo_F11_taken {m m' : Mem} (h119 : ∀ i, rd m' 119 i = rd m 119 i) (h116 : ∀ i, rd m' 116 i = rd m 116 i) {v1 v2 : Int} : F11_taken m' v1 v2 = F11_taken m v1 v2 := by
  unfold F11_taken
  simp only [h119, h116]
