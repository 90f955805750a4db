import java.util.ArrayList;

/**
 * Six nodes in a mesh, each with a core, a small cache and the home of some lines. The document's
 * promises say what every call answers; the names here are the document's words.
 */
public final class MeshLines {
    public static final int BAD = -1;

    private static final int NODES = 6;
    private static final int COLUMNS = 3;
    private static final int LINES = 8;
    private static final int CHANNELS = 3;
    private static final int MOST_OPERATIONS = 40;
    private static final int MOST_DELAY = 50;
    private static final int MOST_CYCLES = 100;
    private static final int NONE = -1;

    private static final int PORTS = 5;
    private static final int NORTH = 0;
    private static final int EAST = 1;
    private static final int SOUTH = 2;
    private static final int WEST = 3;
    private static final int OWN = 4;
    private static final int ROW = 5;
    private static final int INBOX = 6;

    private static final int LOAD = 0;
    private static final int STORE = 1;
    private static final int SWAP = 2;

    // The kinds stand in the order of their channels, so that a kind tells its channel.
    private static final int GETS = 0;
    private static final int GETM = 1;
    private static final int PUTS = 2;
    private static final int PUTM = 3;
    private static final int FWDS = 4;
    private static final int FWDM = 5;
    private static final int INV = 6;
    private static final int DONE = 7;
    private static final int DATA = 8;
    private static final int ACK = 9;
    // DATA for the home has a kind of its own: the home's node has a cache too, with the same line.
    private static final int HOME_DATA = 10;

    private final Mesh mesh;
    private final Home[] homes;
    private final Node[] nodes;
    private int cycle;

    public MeshLines(int depth, int flits) {
        mesh = new Mesh(nearest(depth, 1, 4), nearest(flits, 2, 5));
        homes = new Home[LINES];
        for (int l = 0; l < LINES; l++) {
            homes[l] = new Home(l, mesh);
        }
        nodes = new Node[NODES];
        for (int n = 0; n < NODES; n++) {
            nodes[n] = new Node(n, mesh, homes);
        }
    }

    public int operation(int n, int kind, int line, int value, int delay) {
        if (!isBelow(n, NODES) || !isBelow(kind, SWAP + 1) || !isBelow(line, LINES)) {
            return BAD;
        }
        if (!isBelow(delay, MOST_DELAY + 1)) {
            return BAD;
        }
        return nodes[n].core.append(kind, line, value, delay);
    }

    public int run(int n) {
        if (!isBelow(n, MOST_CYCLES + 1)) {
            return BAD;
        }
        for (int i = 0; i < n; i++) {
            cycle++;
            mesh.enterFlits(cycle);
            mesh.moveFlits(cycle);
            for (int k = 0; k < NODES; k++) {
                nodes[k].takePackets(cycle);
            }
            for (int k = 0; k < NODES; k++) {
                nodes[k].core.act(cycle);
            }
        }
        return cycle;
    }

    public int result(int n, int k) {
        if (!isBelow(n, NODES)) {
            return 0;
        }
        Core core = nodes[n].core;
        return isBelow(k, core.finished) ? core.results[k] : 0;
    }

    public int done(int n) {
        return isBelow(n, NODES) ? nodes[n].core.finished : BAD;
    }

    public int cache(int n, int l, int what) {
        if (!isBelow(n, NODES) || !isBelow(l, LINES)) {
            return BAD;
        }
        Cache cache = nodes[n].cache;
        switch (what) {
            case 0:
                return cache.states[l];
            case 1:
                return cache.values[l];
            case 2:
                return cache.needs[l];
            case 3:
                return cache.used[l];
            default:
                return BAD;
        }
    }

    public int home(int l, int what) {
        if (!isBelow(l, LINES)) {
            return BAD;
        }
        Home home = homes[l];
        switch (what) {
            case 0:
                return home.state;
            case 1:
                return home.value;
            case 2:
                return home.owner == NONE ? 0 : home.owner + 1;
            case 3:
                return home.sharers;
            default:
                return BAD;
        }
    }

    public int buffer(int n, int port, int channel) {
        if (!isBelow(n, NODES) || !isBelow(port, INBOX + 1) || !isBelow(channel, CHANNELS)) {
            return BAD;
        }
        Lane lane = mesh.laneOf(n, channel);
        if (port == ROW) {
            return lane.row.size();
        }
        if (port == INBOX) {
            return lane.inbox.size();
        }
        return lane.buffers[port].size;
    }

    public int held(int n, int output, int channel) {
        if (!isBelow(n, NODES) || !isBelow(output, PORTS) || !isBelow(channel, CHANNELS)) {
            return BAD;
        }
        int holder = mesh.laneOf(n, channel).holders[output];
        return holder == NONE ? 0 : holder + 1;
    }

    public int count(int what) {
        switch (what) {
            case 0:
                return mesh.sent;
            case 1:
                return mesh.arrived;
            case 2:
                return mesh.overLinks;
            default:
                return 0;
        }
    }

    private static boolean isBelow(int number, int end) {
        return number >= 0 && number < end;
    }

    private static int nearest(int number, int low, int high) {
        return Math.max(low, Math.min(high, number));
    }

    private static int homeOf(int line) {
        return line % NODES;
    }

    /** A message under way; its flits are made as they leave the row. */
    private static final class Packet {
        final int kind;
        final int line;
        final int destination;
        /** The asker of a forward; of a request, the node that it comes from. */
        final int asker;
        final int value;
        final int acks;
        final int length;

        Packet(int kind, int line, int destination, int asker, int value, int acks, int flits) {
            this.kind = kind;
            this.line = line;
            this.destination = destination;
            this.asker = asker;
            this.value = value;
            this.acks = acks;
            boolean isLong = kind == PUTM || kind == DATA || kind == HOME_DATA;
            this.length = isLong ? flits : 1;
        }

        int channel() {
            if (kind <= PUTM) {
                return 0;
            }
            return kind <= DONE ? 1 : 2;
        }

        boolean isForHome() {
            return kind <= PUTM || kind == HOME_DATA;
        }
    }

    /** One flit of a packet; it remembers when it came into the buffer where it is. */
    private static final class Flit {
        final Packet packet;
        final boolean isHead;
        final boolean isLast;
        int cameIn;

        Flit(Packet packet, int number) {
            this.packet = packet;
            this.isHead = number == 0;
            this.isLast = number == packet.length - 1;
        }
    }

    /** The flits at one port, of one channel, in the order in which they came. */
    private static final class FlitBuffer {
        final Flit[] flits;
        int size;

        FlitBuffer(int depth) {
            flits = new Flit[depth];
        }

        boolean hasRoom() {
            return size < flits.length;
        }

        Flit front() {
            return size == 0 ? null : flits[0];
        }

        void put(Flit flit, int cycle) {
            if (hasRoom()) {
                flit.cameIn = cycle;
                flits[size] = flit;
                size++;
            }
        }

        void dropFront() {
            if (size == 0) {
                return;
            }
            for (int i = 1; i < size; i++) {
                flits[i - 1] = flits[i];
            }
            size--;
            flits[size] = null;
        }
    }

    /** What a node has of one channel: its row, its inbox, its buffers and the use of its outputs. */
    private static final class Lane {
        final int node;
        final ArrayList<Packet> row = new ArrayList<>();
        final ArrayList<Packet> inbox = new ArrayList<>();
        final FlitBuffer[] buffers = new FlitBuffer[PORTS];
        final int[] holders = new int[PORTS];
        final int[] last = new int[PORTS];
        /** How many flits of the row's first packet have left it. */
        int entered;

        Lane(int node, int depth) {
            this.node = node;
            for (int port = 0; port < PORTS; port++) {
                buffers[port] = new FlitBuffer(depth);
                holders[port] = NONE;
                last[port] = OWN;
            }
        }

        void enterFlit(int cycle) {
            if (row.isEmpty() || !buffers[OWN].hasRoom()) {
                return;
            }
            Flit flit = new Flit(row.get(0), entered);
            buffers[OWN].put(flit, cycle);
            entered++;
            if (flit.isLast) {
                row.remove(0);
                entered = 0;
            }
        }

        /** The port whose turn it is at an output, whether or not its flit can go. */
        int portFor(int output) {
            if (holders[output] != NONE) {
                return holders[output];
            }
            for (int i = 1; i <= PORTS; i++) {
                int port = (last[output] + i) % PORTS;
                Flit flit = buffers[port].front();
                if (flit != null && flit.isHead && wayTo(flit.packet.destination) == output) {
                    return port;
                }
            }
            return NONE;
        }

        private int wayTo(int destination) {
            int right = destination % COLUMNS - node % COLUMNS;
            if (right != 0) {
                return right > 0 ? EAST : WEST;
            }
            int down = destination / COLUMNS - node / COLUMNS;
            if (down != 0) {
                return down > 0 ? SOUTH : NORTH;
            }
            return OWN;
        }

        void dropFront(int port, int output) {
            Flit flit = buffers[port].front();
            if (flit != null) {
                buffers[port].dropFront();
                last[output] = port;
                holders[output] = flit.isLast ? NONE : port;
            }
        }
    }

    /** All lanes and the links between them. */
    private static final class Mesh {
        private final Lane[] lanes = new Lane[NODES * CHANNELS];
        private final int flits;
        int sent;
        int arrived;
        int overLinks;

        Mesh(int depth, int flits) {
            this.flits = flits;
            for (int i = 0; i < NODES * CHANNELS; i++) {
                lanes[i] = new Lane(i / CHANNELS, depth);
            }
        }

        Lane laneOf(int node, int channel) {
            return lanes[node * CHANNELS + channel];
        }

        // Packets need no store to be used again: 240 operations send some 14 each at the most.
        void send(int from, int kind, int line, int destination, int asker, int value, int acks) {
            Packet packet = new Packet(kind, line, destination, asker, value, acks, flits);
            laneOf(from, packet.channel()).row.add(packet);
            sent++;
        }

        void enterFlits(int cycle) {
            for (int i = 0; i < lanes.length; i++) {
                lanes[i].enterFlit(cycle);
            }
        }

        void moveFlits(int cycle) {
            // With no packet under way all buffers are empty: most cycles of a long run are such.
            if (sent == arrived) {
                return;
            }
            for (int n = 0; n < NODES; n++) {
                for (int output = 0; output < PORTS; output++) {
                    moveOneFlit(n, output, cycle);
                }
            }
        }

        private void moveOneFlit(int n, int output, int cycle) {
            boolean went = false;
            for (int channel = CHANNELS - 1; channel >= 0 && !went; channel--) {
                went = moveFlitOf(n, output, channel, cycle);
            }
        }

        private boolean moveFlitOf(int n, int output, int channel, int cycle) {
            Lane lane = laneOf(n, channel);
            int port = lane.portFor(output);
            if (port == NONE) {
                return false;
            }
            Flit flit = lane.buffers[port].front();
            if (flit == null || flit.cameIn == cycle) {
                return false;
            }
            if (output == OWN) {
                leaveMesh(flit, lane);
            } else {
                FlitBuffer next = bufferBeyond(n, output, channel);
                if (next == null || !next.hasRoom()) {
                    return false;
                }
                next.put(flit, cycle);
                overLinks++;
            }
            lane.dropFront(port, output);
            return true;
        }

        private void leaveMesh(Flit flit, Lane lane) {
            if (flit.isLast) {
                lane.inbox.add(flit.packet);
                arrived++;
            }
        }

        /** The buffer that an output's link ends at, null at the mesh's edge. */
        private FlitBuffer bufferBeyond(int n, int output, int channel) {
            switch (output) {
                case NORTH:
                    return n < COLUMNS ? null : laneOf(n - COLUMNS, channel).buffers[SOUTH];
                case EAST:
                    return n % COLUMNS == COLUMNS - 1 ? null : laneOf(n + 1, channel).buffers[WEST];
                case SOUTH:
                    return n + COLUMNS >= NODES ? null : laneOf(n + COLUMNS, channel).buffers[NORTH];
                case WEST:
                    return n % COLUMNS == 0 ? null : laneOf(n - 1, channel).buffers[EAST];
                default:
                    return null;
            }
        }
    }

    /** What the home knows of one line. */
    private static final class Home {
        static final int I = 0;
        static final int S = 1;
        static final int M = 2;
        static final int SD = 3;

        private final int line;
        private final int node;
        private final Mesh mesh;
        int state = I;
        int owner = NONE;
        int sharers;
        int value;

        Home(int line, Mesh mesh) {
            this.line = line;
            this.node = homeOf(line);
            this.mesh = mesh;
        }

        boolean stalls(Packet packet) {
            return state == SD && (packet.kind == GETS || packet.kind == GETM);
        }

        void take(Packet packet) {
            switch (packet.kind) {
                case GETS:
                    takeGets(packet.asker);
                    break;
                case GETM:
                    takeGetm(packet.asker);
                    break;
                case PUTS:
                    takePuts(packet.asker);
                    break;
                case PUTM:
                    takePutm(packet.asker, packet.value);
                    break;
                case HOME_DATA:
                    value = packet.value;
                    state = state == SD ? S : state;
                    break;
                default:
                    break;
            }
        }

        private void takeGets(int x) {
            if (state == M) {
                mesh.send(node, FWDS, line, owner, x, 0, 0);
                sharers |= (1 << owner) | (1 << x);
                owner = NONE;
                state = SD;
            } else {
                mesh.send(node, DATA, line, x, x, value, 0);
                sharers |= 1 << x;
                state = S;
            }
        }

        private void takeGetm(int x) {
            if (state == M) {
                mesh.send(node, FWDM, line, owner, x, 0, 0);
            } else {
                int others = sharers & ~(1 << x);
                mesh.send(node, DATA, line, x, x, value, Integer.bitCount(others));
                for (int n = 0; n < NODES; n++) {
                    if ((others & (1 << n)) != 0) {
                        mesh.send(node, INV, line, n, x, 0, 0);
                    }
                }
                sharers = 0;
                state = M;
            }
            owner = x;
        }

        private void takePuts(int x) {
            dropSharer(x);
            mesh.send(node, DONE, line, x, x, 0, 0);
        }

        private void takePutm(int x, int newValue) {
            if (state == M && owner == x) {
                value = newValue;
                owner = NONE;
                state = I;
            } else {
                dropSharer(x);
            }
            mesh.send(node, DONE, line, x, x, 0, 0);
        }

        private void dropSharer(int x) {
            sharers &= ~(1 << x);
            if (state == S && sharers == 0) {
                state = I;
            }
        }
    }

    /** The lines of one node's cache. */
    private static final class Cache {
        static final int I = 0;
        static final int ISD = 1;
        static final int IMAD = 2;
        static final int IMA = 3;
        static final int S = 4;
        static final int SMAD = 5;
        static final int SMA = 6;
        static final int M = 7;
        static final int MIA = 8;
        static final int SIA = 9;
        static final int IIA = 10;
        static final int MOST_OF_A_KIND = 2;

        private final int node;
        private final Mesh mesh;
        final int[] states = new int[LINES];
        final int[] values = new int[LINES];
        final int[] needs = new int[LINES];
        final int[] used = new int[LINES];

        Cache(int node, Mesh mesh) {
            this.node = node;
            this.mesh = mesh;
        }

        boolean stalls(Packet packet) {
            int state = states[packet.line];
            switch (packet.kind) {
                case INV:
                    return state != S && state != SMAD && state != SIA;
                case FWDS:
                case FWDM:
                    return state != M && state != MIA;
                default:
                    return false;
            }
        }

        /** Answers whether the line became S or M, which ends the core's operation. */
        boolean take(Packet packet) {
            int line = packet.line;
            switch (packet.kind) {
                case DATA:
                    return takeData(packet);
                case ACK:
                    return takeAck(line);
                case INV:
                    takeInv(packet);
                    return false;
                case FWDS:
                    become(line, states[line] == M ? S : SIA);
                    giveData(DATA, line, packet.asker);
                    giveData(HOME_DATA, line, homeOf(line));
                    return false;
                case FWDM:
                    giveData(DATA, line, packet.asker);
                    become(line, states[line] == M ? I : IIA);
                    return false;
                case DONE:
                    become(line, I);
                    return false;
                default:
                    return false;
            }
        }

        private boolean takeData(Packet packet) {
            int line = packet.line;
            needs[line] += packet.acks;
            values[line] = packet.value;
            boolean hasAll = needs[line] == 0;
            switch (states[line]) {
                case ISD:
                    states[line] = S;
                    return true;
                case IMAD:
                    states[line] = hasAll ? M : IMA;
                    return hasAll;
                case SMAD:
                    states[line] = hasAll ? M : SMA;
                    return hasAll;
                default:
                    return false;
            }
        }

        private boolean takeAck(int line) {
            needs[line]--;
            boolean waited = states[line] == IMA || states[line] == SMA;
            if (!waited || needs[line] != 0) {
                return false;
            }
            states[line] = M;
            return true;
        }

        private void takeInv(Packet packet) {
            int line = packet.line;
            if (states[line] == S) {
                become(line, I);
            } else {
                become(line, states[line] == SMAD ? IMAD : IIA);
            }
            mesh.send(node, ACK, line, packet.asker, packet.asker, 0, 0);
        }

        private void become(int line, int next) {
            states[line] = next;
            if (next == I) {
                values[line] = 0;
            }
        }

        private void giveData(int kind, int line, int to) {
            mesh.send(node, kind, line, to, to, values[line], 0);
        }

        boolean hasRoomFor(int line) {
            int others = 0;
            for (int l = line % 2; l < LINES; l += 2) {
                others += states[l] == I ? 0 : 1;
            }
            return others < MOST_OF_A_KIND;
        }

        /** Sends a request to the home; only PUTM makes use of the value that goes with it. */
        void ask(int kind, int line, int next) {
            mesh.send(node, kind, line, homeOf(line), node, values[line], 0);
            states[line] = next;
        }

        /** Sends away a line of the same kind, unless one is going already. */
        void makeRoomFor(int line) {
            int oldest = NONE;
            for (int l = line % 2; l < LINES; l += 2) {
                if (states[l] == MIA || states[l] == SIA || states[l] == IIA) {
                    return;
                }
                boolean canGo = states[l] == S || states[l] == M;
                if (canGo && (oldest == NONE || used[l] < used[oldest])) {
                    oldest = l;
                }
            }
            if (oldest == NONE) {
                return;
            }
            if (states[oldest] == S) {
                ask(PUTS, oldest, SIA);
            } else {
                ask(PUTM, oldest, MIA);
            }
        }
    }

    /** The operations of one node, in order. */
    private static final class Core {
        private final Cache cache;
        private final int[] kinds = new int[MOST_OPERATIONS];
        private final int[] lines = new int[MOST_OPERATIONS];
        private final int[] values = new int[MOST_OPERATIONS];
        private final int[] delays = new int[MOST_OPERATIONS];
        final int[] results = new int[MOST_OPERATIONS];
        private int total;
        int finished;
        /** The cycle in which an operation was done last: the core does no more in that one. */
        private int finishedIn;

        Core(Cache cache) {
            this.cache = cache;
        }

        int append(int kind, int line, int value, int delay) {
            if (total >= MOST_OPERATIONS) {
                return BAD;
            }
            kinds[total] = kind;
            lines[total] = line;
            values[total] = value;
            delays[total] = delay;
            total++;
            return total - 1;
        }

        void act(int cycle) {
            if (finished >= total || finishedIn == cycle) {
                return;
            }
            if (delays[finished] > 0) {
                delays[finished]--;
                return;
            }
            int line = lines[finished];
            boolean loads = kinds[finished] == LOAD;
            int state = cache.states[line];
            if (state == Cache.M || (state == Cache.S && loads)) {
                finishPresent(cycle);
            } else if (state == Cache.S) {
                cache.ask(GETM, line, Cache.SMAD);
            } else if (state == Cache.I) {
                fetch(line, loads);
            }
        }

        private void fetch(int line, boolean loads) {
            if (!cache.hasRoomFor(line)) {
                cache.makeRoomFor(line);
            } else if (loads) {
                cache.ask(GETS, line, Cache.ISD);
            } else {
                cache.ask(GETM, line, Cache.IMAD);
            }
        }

        void finishPresent(int cycle) {
            if (finished >= total) {
                return;
            }
            int line = lines[finished];
            int kind = kinds[finished];
            results[finished] = kind == STORE ? 0 : cache.values[line];
            if (kind != LOAD) {
                cache.values[line] = values[finished];
            }
            cache.used[line] = cycle;
            finished++;
            finishedIn = cycle;
        }
    }

    /** A core and its cache, and the way of what arrives to the cache or to a home. */
    private static final class Node {
        private final int number;
        private final Mesh mesh;
        private final Home[] homes;
        final Cache cache;
        final Core core;

        Node(int number, Mesh mesh, Home[] homes) {
            this.number = number;
            this.mesh = mesh;
            this.homes = homes;
            this.cache = new Cache(number, mesh);
            this.core = new Core(cache);
        }

        void takePackets(int cycle) {
            for (int channel = CHANNELS - 1; channel >= 0; channel--) {
                ArrayList<Packet> inbox = mesh.laneOf(number, channel).inbox;
                int first = firstToTake(inbox);
                if (first != NONE) {
                    take(inbox.remove(first), cycle);
                }
            }
        }

        private int firstToTake(ArrayList<Packet> inbox) {
            int linesBefore = 0;
            int size = inbox.size();
            for (int i = 0; i < size; i++) {
                Packet packet = inbox.get(i);
                int bit = 1 << packet.line;
                if ((linesBefore & bit) == 0 && !stalls(packet)) {
                    return i;
                }
                linesBefore |= bit;
            }
            return NONE;
        }

        private boolean stalls(Packet packet) {
            return packet.isForHome() ? homes[packet.line].stalls(packet) : cache.stalls(packet);
        }

        private void take(Packet packet, int cycle) {
            if (packet.isForHome()) {
                homes[packet.line].take(packet);
            } else if (cache.take(packet)) {
                core.finishPresent(cycle);
            }
        }
    }
}
