set_option maxHeartbeats 400000
/-! THE SNOW: WHAT CHANGES IT -/
def w_hr (s : ST) (x : Nat) : ST := (x, s.2.1, s.2.2.1, s.2.2.2.1, s.2.2.2.2.1, s.2.2.2.2.2.1, s.2.2.2.2.2.2)
def w_wt (s : ST) (x : Nat → Int32) : ST := (s.1, x, s.2.2.1, s.2.2.2.1, s.2.2.2.2.1, s.2.2.2.2.2.1, s.2.2.2.2.2.2)
def w_pl (s : ST) (x : Nat → Nat) : ST := (s.1, s.2.1, x, s.2.2.2.1, s.2.2.2.2.1, s.2.2.2.2.2.1, s.2.2.2.2.2.2)
def w_fl (s : ST) (x : Nat → Nat) : ST := (s.1, s.2.1, s.2.2.1, x, s.2.2.2.2.1, s.2.2.2.2.2.1, s.2.2.2.2.2.2)
def w_ow (s : ST) (x : Nat → Int32) : ST := (s.1, s.2.1, s.2.2.1, s.2.2.2.1, x, s.2.2.2.2.2.1, s.2.2.2.2.2.2)
def w_ht (s : ST) (x : Nat → Nat) : ST := (s.1, s.2.1, s.2.2.1, s.2.2.2.1, s.2.2.2.2.1, x, s.2.2.2.2.2.2)
def w_ab (s : ST) (x : Int32) : ST := (s.1, s.2.1, s.2.2.1, s.2.2.2.1, s.2.2.2.2.1, s.2.2.2.2.2.1, x)
theorem sw_hr_hr {s : ST} {x : Nat} : s_hr (w_hr s x) = x := rfl
theorem sw_hr_wt {s : ST} {x : Nat → Int32} : s_hr (w_wt s x) = s_hr s := rfl
theorem sw_hr_pl {s : ST} {x : Nat → Nat} : s_hr (w_pl s x) = s_hr s := rfl
theorem sw_hr_fl {s : ST} {x : Nat → Nat} : s_hr (w_fl s x) = s_hr s := rfl
theorem sw_hr_ow {s : ST} {x : Nat → Int32} : s_hr (w_ow s x) = s_hr s := rfl
theorem sw_hr_ht {s : ST} {x : Nat → Nat} : s_hr (w_ht s x) = s_hr s := rfl
theorem sw_hr_ab {s : ST} {x : Int32} : s_hr (w_ab s x) = s_hr s := rfl
theorem sw_wt_hr {s : ST} {x : Nat} : s_wt (w_hr s x) = s_wt s := rfl
theorem sw_wt_wt {s : ST} {x : Nat → Int32} : s_wt (w_wt s x) = x := rfl
theorem sw_wt_pl {s : ST} {x : Nat → Nat} : s_wt (w_pl s x) = s_wt s := rfl
theorem sw_wt_fl {s : ST} {x : Nat → Nat} : s_wt (w_fl s x) = s_wt s := rfl
theorem sw_wt_ow {s : ST} {x : Nat → Int32} : s_wt (w_ow s x) = s_wt s := rfl
theorem sw_wt_ht {s : ST} {x : Nat → Nat} : s_wt (w_ht s x) = s_wt s := rfl
theorem sw_wt_ab {s : ST} {x : Int32} : s_wt (w_ab s x) = s_wt s := rfl
theorem sw_pl_hr {s : ST} {x : Nat} : s_pl (w_hr s x) = s_pl s := rfl
theorem sw_pl_wt {s : ST} {x : Nat → Int32} : s_pl (w_wt s x) = s_pl s := rfl
theorem sw_pl_pl {s : ST} {x : Nat → Nat} : s_pl (w_pl s x) = x := rfl
theorem sw_pl_fl {s : ST} {x : Nat → Nat} : s_pl (w_fl s x) = s_pl s := rfl
theorem sw_pl_ow {s : ST} {x : Nat → Int32} : s_pl (w_ow s x) = s_pl s := rfl
theorem sw_pl_ht {s : ST} {x : Nat → Nat} : s_pl (w_ht s x) = s_pl s := rfl
theorem sw_pl_ab {s : ST} {x : Int32} : s_pl (w_ab s x) = s_pl s := rfl
theorem sw_fl_hr {s : ST} {x : Nat} : s_fl (w_hr s x) = s_fl s := rfl
theorem sw_fl_wt {s : ST} {x : Nat → Int32} : s_fl (w_wt s x) = s_fl s := rfl
theorem sw_fl_pl {s : ST} {x : Nat → Nat} : s_fl (w_pl s x) = s_fl s := rfl
theorem sw_fl_fl {s : ST} {x : Nat → Nat} : s_fl (w_fl s x) = x := rfl
theorem sw_fl_ow {s : ST} {x : Nat → Int32} : s_fl (w_ow s x) = s_fl s := rfl
theorem sw_fl_ht {s : ST} {x : Nat → Nat} : s_fl (w_ht s x) = s_fl s := rfl
theorem sw_fl_ab {s : ST} {x : Int32} : s_fl (w_ab s x) = s_fl s := rfl
theorem sw_ow_hr {s : ST} {x : Nat} : s_ow (w_hr s x) = s_ow s := rfl
theorem sw_ow_wt {s : ST} {x : Nat → Int32} : s_ow (w_wt s x) = s_ow s := rfl
theorem sw_ow_pl {s : ST} {x : Nat → Nat} : s_ow (w_pl s x) = s_ow s := rfl
theorem sw_ow_fl {s : ST} {x : Nat → Nat} : s_ow (w_fl s x) = s_ow s := rfl
theorem sw_ow_ow {s : ST} {x : Nat → Int32} : s_ow (w_ow s x) = x := rfl
theorem sw_ow_ht {s : ST} {x : Nat → Nat} : s_ow (w_ht s x) = s_ow s := rfl
theorem sw_ow_ab {s : ST} {x : Int32} : s_ow (w_ab s x) = s_ow s := rfl
theorem sw_ht_hr {s : ST} {x : Nat} : s_ht (w_hr s x) = s_ht s := rfl
theorem sw_ht_wt {s : ST} {x : Nat → Int32} : s_ht (w_wt s x) = s_ht s := rfl
theorem sw_ht_pl {s : ST} {x : Nat → Nat} : s_ht (w_pl s x) = s_ht s := rfl
theorem sw_ht_fl {s : ST} {x : Nat → Nat} : s_ht (w_fl s x) = s_ht s := rfl
theorem sw_ht_ow {s : ST} {x : Nat → Int32} : s_ht (w_ow s x) = s_ht s := rfl
theorem sw_ht_ht {s : ST} {x : Nat → Nat} : s_ht (w_ht s x) = x := rfl
theorem sw_ht_ab {s : ST} {x : Int32} : s_ht (w_ab s x) = s_ht s := rfl
theorem sw_ab_hr {s : ST} {x : Nat} : s_ab (w_hr s x) = s_ab s := rfl
theorem sw_ab_wt {s : ST} {x : Nat → Int32} : s_ab (w_wt s x) = s_ab s := rfl
theorem sw_ab_pl {s : ST} {x : Nat → Nat} : s_ab (w_pl s x) = s_ab s := rfl
theorem sw_ab_fl {s : ST} {x : Nat → Nat} : s_ab (w_fl s x) = s_ab s := rfl
theorem sw_ab_ow {s : ST} {x : Nat → Int32} : s_ab (w_ow s x) = s_ab s := rfl
theorem sw_ab_ht {s : ST} {x : Nat → Nat} : s_ab (w_ht s x) = s_ab s := rfl
theorem sw_ab_ab {s : ST} {x : Int32} : s_ab (w_ab s x) = x := rfl
