theorem zo_0 : zcl 0 10 := rfl
theorem zo_68 : zcl 68 11 := rfl
