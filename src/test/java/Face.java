/** The document's face, which the program and the plain model both have. */
interface Face {
    int operation(int n, int kind, int line, int value, int delay);

    int run(int n);

    int result(int n, int k);

    int done(int n);

    int cache(int n, int l, int what);

    int home(int l, int what);

    int buffer(int n, int port, int channel);

    int held(int n, int output, int channel);

    int count(int what);
}
