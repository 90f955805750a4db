import java.util.ArrayList;
import java.util.LinkedList;
import java.util.List;
import java.util.TreeSet;

/**
 * The document written down a second time, sentence by sentence and with no care for speed, to
 * compare the program with. It shares no code with it.
 */
final class PlainModel implements Face {
    enum Kind { GETS, GETM, PUTS, PUTM, FWDS, FWDM, INV, DONE, DATA, ACK }

    enum Line { I, ISD, IMAD, IMA, S, SMAD, SMA, M, MIA, SIA, IIA }

    enum AtHome { I, S, M, SD }

    record Message(Kind kind, int line, int to, boolean toHome, int x, int value, int acks) {
        int channel() {
            return switch (kind) {
                case GETS, GETM, PUTS, PUTM -> 0;
                case FWDS, FWDM, INV, DONE -> 1;
                case DATA, ACK -> 2;
            };
        }
    }

    record Flit(Message of, int number, int outOf, int came) {
        boolean head() {
            return number == 1;
        }

        boolean tail() {
            return number == outOf;
        }
    }

    record Operation(int kind, int line, int value) {
    }

    static final class CacheLine {
        Line state = Line.I;
        int value;
        int needs;
        int used;

        void becomes(Line next) {
            state = next;
            if (next == Line.I) {
                value = 0;
            }
        }
    }

    static final class HomeLine {
        AtHome state = AtHome.I;
        Integer owner;
        final TreeSet<Integer> sharers = new TreeSet<>();
        int value;
    }

    static final class PerChannel {
        final LinkedList<Message> row = new LinkedList<>();
        int flitsGone;
        final List<Message> inbox = new ArrayList<>();
        final List<LinkedList<Flit>> ports = new ArrayList<>();
        final Integer[] heldBy = new Integer[5];
        final int[] wentLast = {4, 4, 4, 4, 4};

        PerChannel() {
            for (int p = 0; p < 5; p++) {
                ports.add(new LinkedList<>());
            }
        }
    }

    private final int depth;
    private final int flits;
    private int cycle;
    private final PerChannel[][] at = new PerChannel[6][3];
    private final CacheLine[][] caches = new CacheLine[6][8];
    private final HomeLine[] homes = new HomeLine[8];
    private final List<List<Operation>> operations = new ArrayList<>();
    private final List<List<Integer>> delays = new ArrayList<>();
    private final List<List<Integer>> results = new ArrayList<>();
    private final boolean[] coreIsThrough = new boolean[6];
    private int packetsSent;
    private int packetsArrived;
    private int flitsOverLinks;

    PlainModel(int depth, int flits) {
        this.depth = depth < 1 ? 1 : depth > 4 ? 4 : depth;
        this.flits = flits < 2 ? 2 : flits > 5 ? 5 : flits;
        for (int n = 0; n < 6; n++) {
            for (int c = 0; c < 3; c++) {
                at[n][c] = new PerChannel();
            }
            for (int l = 0; l < 8; l++) {
                caches[n][l] = new CacheLine();
            }
            operations.add(new ArrayList<>());
            delays.add(new ArrayList<>());
            results.add(new ArrayList<>());
        }
        for (int l = 0; l < 8; l++) {
            homes[l] = new HomeLine();
        }
    }

    @Override
    public int operation(int n, int kind, int line, int value, int delay) {
        boolean asSaid = n >= 0 && n <= 5 && kind >= 0 && kind <= 2 && line >= 0 && line <= 7
            && delay >= 0 && delay <= 50;
        if (!asSaid || operations.get(n).size() == 40) {
            return -1;
        }
        operations.get(n).add(new Operation(kind, line, value));
        delays.get(n).add(delay);
        return operations.get(n).size() - 1;
    }

    @Override
    public int run(int n) {
        if (n < 0 || n > 100) {
            return -1;
        }
        for (int i = 0; i < n; i++) {
            cycle += 1;
            step1();
            step2();
            step3();
            step4();
        }
        return cycle;
    }

    private void step1() {
        for (int n = 0; n < 6; n++) {
            for (int c = 0; c < 3; c++) {
                PerChannel here = at[n][c];
                if (!here.row.isEmpty() && here.ports.get(4).size() < depth) {
                    Message first = here.row.getFirst();
                    int outOf = first.kind == Kind.PUTM || first.kind == Kind.DATA ? flits : 1;
                    here.flitsGone += 1;
                    here.ports.get(4).addLast(new Flit(first, here.flitsGone, outOf, cycle));
                    if (here.flitsGone == outOf) {
                        here.row.removeFirst();
                        here.flitsGone = 0;
                    }
                }
            }
        }
    }

    private static int way(int n, int to) {
        if (to % 3 > n % 3) {
            return 1;
        }
        if (to % 3 < n % 3) {
            return 3;
        }
        if (to / 3 > n / 3) {
            return 2;
        }
        return to / 3 < n / 3 ? 0 : 4;
    }

    private Integer portOf(int n, int output, int c) {
        PerChannel here = at[n][c];
        if (here.heldBy[output] != null) {
            return here.heldBy[output];
        }
        for (int k = 1; k <= 5; k++) {
            int port = (here.wentLast[output] + k) % 5;
            Flit front = here.ports.get(port).peekFirst();
            if (front != null && front.head() && way(n, front.of.to) == output) {
                return port;
            }
        }
        return null;
    }

    private void step2() {
        int[] towards = {-3, 1, 3, -1};
        int[] lookingBack = {2, 3, 0, 1};
        for (int n = 0; n < 6; n++) {
            for (int output = 0; output < 5; output++) {
                for (int c = 2; c >= 0; c--) {
                    Integer port = portOf(n, output, c);
                    Flit front = port == null ? null : at[n][c].ports.get(port).peekFirst();
                    if (front == null || front.came == cycle) {
                        continue;
                    }
                    if (output < 4) {
                        PerChannel there = at[n + towards[output]][c];
                        LinkedList<Flit> buffer = there.ports.get(lookingBack[output]);
                        if (buffer.size() >= depth) {
                            continue;
                        }
                        buffer.addLast(new Flit(front.of, front.number, front.outOf, cycle));
                        flitsOverLinks += 1;
                    } else if (front.tail()) {
                        at[n][c].inbox.add(front.of);
                        packetsArrived += 1;
                    }
                    at[n][c].ports.get(port).removeFirst();
                    at[n][c].wentLast[output] = port;
                    at[n][c].heldBy[output] = front.tail() ? null : port;
                    break;
                }
            }
        }
    }

    private void step3() {
        for (int n = 0; n < 6; n++) {
            coreIsThrough[n] = false;
        }
        for (int n = 0; n < 6; n++) {
            for (int c = 2; c >= 0; c--) {
                List<Message> inbox = at[n][c].inbox;
                for (int i = 0; i < inbox.size(); i++) {
                    Message m = inbox.get(i);
                    boolean free = inbox.subList(0, i).stream().noneMatch(b -> b.line == m.line);
                    if (free && (m.toHome ? homeTakes(n, m) : cacheTakes(n, m))) {
                        inbox.remove(i);
                        break;
                    }
                }
            }
        }
    }

    private void send(int from, Message m) {
        at[from][m.channel()].row.addLast(m);
        packetsSent += 1;
    }

    private static Message toCache(Kind kind, int line, int to, int x) {
        return new Message(kind, line, to, false, x, 0, 0);
    }

    private static Message data(int line, int to, int value, int acks) {
        return new Message(Kind.DATA, line, to, false, -1, value, acks);
    }

    /** Answers false when the message stalls, and then nothing has changed. */
    private boolean cacheTakes(int n, Message m) {
        CacheLine line = caches[n][m.line];
        Line was = line.state;
        switch (m.kind) {
            case DATA -> {
                line.needs += m.acks;
                line.value = m.value;
                boolean none = line.needs == 0;
                switch (was) {
                    case ISD -> line.becomes(Line.S);
                    case IMAD -> line.becomes(none ? Line.M : Line.IMA);
                    case SMAD -> line.becomes(none ? Line.M : Line.SMA);
                    default -> { }
                }
            }
            case ACK -> {
                line.needs -= 1;
                if (line.needs == 0 && (was == Line.IMA || was == Line.SMA)) {
                    line.becomes(Line.M);
                }
            }
            case INV -> {
                switch (was) {
                    case S -> line.becomes(Line.I);
                    case SMAD -> line.becomes(Line.IMAD);
                    case SIA -> line.becomes(Line.IIA);
                    default -> {
                        return false;
                    }
                }
                send(n, toCache(Kind.ACK, m.line, m.x, m.x));
            }
            case FWDS, FWDM -> {
                if (was != Line.M && was != Line.MIA) {
                    return false;
                }
                send(n, data(m.line, m.x, line.value, 0));
                if (m.kind == Kind.FWDS) {
                    send(n, new Message(Kind.DATA, m.line, m.line % 6, true, n, line.value, 0));
                    line.becomes(was == Line.M ? Line.S : Line.SIA);
                } else {
                    line.becomes(was == Line.M ? Line.I : Line.IIA);
                }
            }
            case DONE -> line.becomes(Line.I);
            default -> throw new IllegalStateException("a cache does not take " + m);
        }
        boolean byDataOrAck = m.kind == Kind.DATA || m.kind == Kind.ACK;
        if (byDataOrAck && was != line.state && (line.state == Line.S || line.state == Line.M)) {
            Operation o = operations.get(n).get(results.get(n).size());
            if (o.line != m.line || delays.get(n).get(results.get(n).size()) != 0) {
                throw new IllegalStateException("another operation waited for " + m);
            }
            finish(n, o);
            coreIsThrough[n] = true;
        }
        return true;
    }

    private boolean homeTakes(int n, Message m) {
        HomeLine home = homes[m.line];
        int x = m.x;
        if (n != m.line % 6) {
            throw new IllegalStateException("not the home of " + m);
        }
        if (home.state == AtHome.SD && (m.kind == Kind.GETS || m.kind == Kind.GETM)) {
            return false;
        }
        switch (m.kind) {
            case GETS -> {
                if (home.state == AtHome.M) {
                    send(n, toCache(Kind.FWDS, m.line, home.owner, x));
                    home.sharers.add(home.owner);
                    home.owner = null;
                    home.state = AtHome.SD;
                } else {
                    send(n, data(m.line, x, home.value, 0));
                    home.state = AtHome.S;
                }
                home.sharers.add(x);
            }
            case GETM -> {
                if (home.state == AtHome.M) {
                    send(n, toCache(Kind.FWDM, m.line, home.owner, x));
                } else {
                    home.sharers.remove(x);
                    send(n, data(m.line, x, home.value, home.sharers.size()));
                    for (int sharer : home.sharers) {
                        send(n, toCache(Kind.INV, m.line, sharer, x));
                    }
                    home.sharers.clear();
                    home.state = AtHome.M;
                }
                home.owner = x;
            }
            case PUTS, PUTM -> {
                if (m.kind == Kind.PUTM && home.state == AtHome.M && home.owner == x) {
                    home.value = m.value;
                    home.owner = null;
                    home.state = AtHome.I;
                } else {
                    home.sharers.remove(x);
                    if (home.state == AtHome.S && home.sharers.isEmpty()) {
                        home.state = AtHome.I;
                    }
                }
                send(n, toCache(Kind.DONE, m.line, x, x));
            }
            case DATA -> {
                home.value = m.value;
                if (home.state == AtHome.SD) {
                    home.state = AtHome.S;
                }
            }
            default -> throw new IllegalStateException("a home does not take " + m);
        }
        return true;
    }

    private void finish(int n, Operation o) {
        CacheLine line = caches[n][o.line];
        results.get(n).add(o.kind == 1 ? 0 : line.value);
        if (o.kind != 0) {
            line.value = o.value;
        }
        line.used = cycle;
    }

    private void step4() {
        for (int n = 0; n < 6; n++) {
            int k = results.get(n).size();
            if (coreIsThrough[n] || k == operations.get(n).size()) {
                continue;
            }
            int delay = delays.get(n).get(k);
            if (delay > 0) {
                delays.get(n).set(k, delay - 1);
                continue;
            }
            core(n, operations.get(n).get(k));
        }
    }

    private void ask(int n, Kind kind, int line, Line next) {
        int value = kind == Kind.PUTM ? caches[n][line].value : 0;
        send(n, new Message(kind, line, line % 6, true, n, value, 0));
        caches[n][line].becomes(next);
    }

    private void core(int n, Operation o) {
        Line state = caches[n][o.line].state;
        if (state == Line.M || state == Line.S && o.kind == 0) {
            finish(n, o);
            return;
        }
        if (state == Line.S) {
            ask(n, Kind.GETM, o.line, Line.SMAD);
            return;
        }
        if (state != Line.I) {
            return;
        }
        List<Integer> others = new ArrayList<>();
        for (int l = 0; l < 8; l++) {
            if (l % 2 == o.line % 2 && caches[n][l].state != Line.I) {
                others.add(l);
            }
        }
        if (others.size() < 2) {
            ask(n, o.kind == 0 ? Kind.GETS : Kind.GETM, o.line, o.kind == 0 ? Line.ISD : Line.IMAD);
            return;
        }
        if (others.stream().anyMatch(l -> caches[n][l].state.compareTo(Line.MIA) >= 0)) {
            return;
        }
        others.removeIf(l -> caches[n][l].state != Line.S && caches[n][l].state != Line.M);
        others.sort((a, b) -> caches[n][a].used - caches[n][b].used);
        boolean shared = caches[n][others.get(0)].state == Line.S;
        ask(n, shared ? Kind.PUTS : Kind.PUTM, others.get(0), shared ? Line.SIA : Line.MIA);
    }

    @Override
    public int result(int n, int k) {
        if (n < 0 || n > 5 || k < 0) {
            return 0;
        }
        return k < results.get(n).size() ? results.get(n).get(k) : 0;
    }

    @Override
    public int done(int n) {
        if (n < 0 || n > 5) {
            return -1;
        }
        return results.get(n).size();
    }

    @Override
    public int cache(int n, int l, int what) {
        if (n < 0 || n > 5 || l < 0 || l > 7 || what < 0 || what > 3) {
            return -1;
        }
        CacheLine line = caches[n][l];
        return new int[] {line.state.ordinal(), line.value, line.needs, line.used}[what];
    }

    @Override
    public int home(int l, int what) {
        if (l < 0 || l > 7 || what < 0 || what > 3) {
            return -1;
        }
        HomeLine home = homes[l];
        int bits = 0;
        for (int sharer : home.sharers) {
            bits += 1 << sharer;
        }
        int owner = home.owner == null ? 0 : home.owner + 1;
        return new int[] {home.state.ordinal(), home.value, owner, bits}[what];
    }

    @Override
    public int buffer(int n, int port, int channel) {
        if (n < 0 || n > 5 || port < 0 || port > 6 || channel < 0 || channel > 2) {
            return -1;
        }
        PerChannel here = at[n][channel];
        return port == 5 ? here.row.size() : port == 6 ? here.inbox.size() : here.ports.get(port).size();
    }

    @Override
    public int held(int n, int output, int channel) {
        if (n < 0 || n > 5 || output < 0 || output > 4 || channel < 0 || channel > 2) {
            return -1;
        }
        Integer port = at[n][channel].heldBy[output];
        return port == null ? 0 : port + 1;
    }

    @Override
    public int count(int what) {
        return what == 0 ? packetsSent : what == 1 ? packetsArrived : what == 2 ? flitsOverLinks : 0;
    }
}
