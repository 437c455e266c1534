theorem zdk_3 : (List.range' 158 34).all zdk = true := by decide +kernel
