/** All that the face tells of an object. */
final class Seen {
    private Seen() {
    }

    interface Face {
        int result(int n, int k);

        int done(int n);

        int cache(int n, int l, int what);

        int home(int l, int what);

        int buffer(int n, int port, int channel);

        int held(int n, int output, int channel);

        int count(int what);
    }

    static Face faceOf(MeshLines x) {
        return new Face() {
            @Override
            public int result(int n, int k) {
                return x.result(n, k);
            }

            @Override
            public int done(int n) {
                return x.done(n);
            }

            @Override
            public int cache(int n, int l, int what) {
                return x.cache(n, l, what);
            }

            @Override
            public int home(int l, int what) {
                return x.home(l, what);
            }

            @Override
            public int buffer(int n, int port, int channel) {
                return x.buffer(n, port, channel);
            }

            @Override
            public int held(int n, int output, int channel) {
                return x.held(n, output, channel);
            }

            @Override
            public int count(int what) {
                return x.count(what);
            }
        };
    }

    static void compare(String where, MeshLines got, MeshLines want) {
        compare(where, faceOf(got), faceOf(want));
    }

    static void compare(String where, Face got, Face want) {
        for (int n = 0; n < 6; n++) {
            Check.due(where + ": done(" + n + ")", got.done(n), want.done(n));
            for (int k = 0; k < 40; k++) {
                look(where, "result", n, k, 0, got.result(n, k), want.result(n, k));
            }
            compareNode(where, n, got, want);
        }
        for (int what = 0; what < 4; what++) {
            Check.due(where + ": count(" + what + ")", got.count(what), want.count(what));
            for (int l = 0; l < 8; l++) {
                look(where, "home", l, what, 0, got.home(l, what), want.home(l, what));
            }
        }
    }

    private static void compareNode(String where, int n, Face got, Face want) {
        for (int l = 0; l < 8; l++) {
            for (int what = 0; what < 4; what++) {
                look(where, "cache", n, l, what, got.cache(n, l, what), want.cache(n, l, what));
            }
        }
        for (int c = 0; c < 3; c++) {
            for (int port = 0; port < 7; port++) {
                look(where, "buffer", n, port, c, got.buffer(n, port, c), want.buffer(n, port, c));
            }
            for (int output = 0; output < 5; output++) {
                look(where, "held", n, output, c, got.held(n, output, c), want.held(n, output, c));
            }
        }
    }

    private static void look(String where, String call, int a, int b, int c, int got, int want) {
        if (got != want) {
            Check.due(where + ": " + call + " of " + a + ", " + b + ", " + c, got, want);
        }
    }

    static int fullestBuffer(MeshLines x) {
        int most = 0;
        for (int n = 0; n < 6; n++) {
            for (int port = 0; port < 5; port++) {
                for (int c = 0; c < 3; c++) {
                    most = Math.max(most, x.buffer(n, port, c));
                }
            }
        }
        return most;
    }
}
