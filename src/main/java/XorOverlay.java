import java.util.Arrays;

/**
 * A network of peers that find one another, and what others have announced,
 * by the exclusive-or distance of their numbers.
 */
public final class XorOverlay {
    private static final int NONE = -1;
    private static final int NUMBERS = 256;
    private static final int PEER_LIMIT = 12;
    private static final int CLOSE = 3;
    private static final int TICKS_IN_EPOCH = 8;
    private static final int STALE_AFTER = 16;
    private static final int FAILED_AFTER = 4;
    private static final int ENTRY_LASTS = 24;

    // Kinds of datagrams; FIND and GET are kinds of lookups too, beside ANNOUNCE.
    private static final int FIND = 0;
    private static final int GET = 1;
    private static final int NODES = 2;
    private static final int STORE = 3;
    private static final int ANNOUNCE = 2;

    // Cells of a datagram's row: the same numbers that datagram(k, what) takes.
    private static final int KIND = 0;
    private static final int SENDER = 1;
    private static final int RECEIVER = 2;
    private static final int SERIAL = 3;
    private static final int TARGET = 4;
    private static final int TOKEN = 5;
    private static final int CONTACTS = 6;
    private static final int HOLDERS = 9;
    private static final int CELLS = 12;

    private final Peer[] peers;
    private final Line line;
    // Two rows apart from the line: what is written must not overwrite what is being read.
    private final int[] draft;
    private final int[] taken;
    private int enrolled;
    private int now;
    private int lastSerial;

    public XorOverlay() {
        peers = new Peer[PEER_LIMIT];
        line = new Line();
        draft = new int[CELLS];
        taken = new int[CELLS];
        enrolled = 0;
        now = 0;
        lastSerial = 0;
    }

    public boolean join(int p, int via) {
        if (!isNumber(p) || upPeer(p) != null) {
            return false;
        }
        if (via != NONE && upPeer(via) == null) {
            return false;
        }
        Peer peer = enrolIfRoom(p);
        if (peer == null) {
            return false;
        }
        peer.startAnew(now);
        if (via != NONE) {
            peer.table.see(via, now);
            startLookup(peer, FIND, p);
        }
        return true;
    }

    public boolean leave(int p) {
        Peer peer = upPeer(p);
        if (peer == null) {
            return false;
        }
        peer.up = false;
        return true;
    }

    public boolean begin(int p, int kind, int target) {
        Peer peer = upPeer(p);
        if (peer == null || peer.lookup.isRunning()) {
            return false;
        }
        if (kind < FIND || kind > ANNOUNCE || !isNumber(target)) {
            return false;
        }
        startLookup(peer, kind, target);
        return true;
    }

    public int refresh(int p) {
        Peer peer = upPeer(p);
        if (peer == null || peer.lookup.isRunning()) {
            return NONE;
        }
        int target = peer.table.staleTarget(now);
        if (target != NONE) {
            startLookup(peer, FIND, target);
        }
        return target;
    }

    public int tick() {
        now++;
        int failed = 0;
        for (int i = 0; i < enrolled; i++) {
            Peer peer = peers[i];
            if (peer != null && peer.up) {
                peer.entries.removeEnded(now);
                failed += giveUpOnSilent(peer);
            }
        }
        return failed;
    }

    public int clock() {
        return now;
    }

    public int waiting() {
        return line.count;
    }

    public int datagram(int k, int what) {
        if (!line.has(k) || what < 0 || what >= CELLS) {
            return NONE;
        }
        return line.cell(k, what);
    }

    public int deliver(int k) {
        if (!line.has(k)) {
            return NONE;
        }
        line.copyOut(k, taken);
        line.remove(k);
        Peer receiver = upPeer(taken[RECEIVER]);
        if (receiver == null) {
            return 0;
        }
        receiver.table.see(taken[SENDER], now);
        switch (taken[KIND]) {
            case FIND:
            case GET:
                answerQuery(receiver);
                break;
            case NODES:
                takeNodes(receiver);
                break;
            default:
                takeStore(receiver);
                break;
        }
        return 1;
    }

    public boolean drop(int k) {
        if (!line.has(k)) {
            return false;
        }
        line.remove(k);
        return true;
    }

    public int lookup(int p) {
        Peer peer = upPeer(p);
        return peer == null ? NONE : peer.lookup.stage;
    }

    public int candidate(int p, int j) {
        Peer peer = upPeer(p);
        if (peer == null || !peer.lookup.hasCandidate(j)) {
            return NONE;
        }
        return peer.lookup.numbers[j] + 256 * peer.lookup.marks[j];
    }

    public int found(int p, int j) {
        Peer peer = upPeer(p);
        if (peer == null || j < 0 || j >= peer.lookup.holderCount) {
            return NONE;
        }
        return peer.lookup.holders[j];
    }

    public int buckets(int p) {
        Peer peer = upPeer(p);
        return peer == null ? NONE : peer.table.count;
    }

    public int bucket(int p, int b) {
        Bucket bucket = bucketOf(p, b);
        if (bucket == null) {
            return NONE;
        }
        return bucket.first + 256 * bucket.count + 1024 * (now - bucket.touched);
    }

    public int contact(int p, int b, int j) {
        Bucket bucket = bucketOf(p, b);
        if (bucket == null || j < 0 || j >= bucket.count) {
            return NONE;
        }
        return bucket.numbers[j] + 256 * bucket.misses[j];
    }

    public int closest(int p, int target, int j) {
        Peer peer = upPeer(p);
        if (peer == null || !isNumber(target) || j < 0 || j >= CLOSE) {
            return NONE;
        }
        int number = peer.table.closestBeyond(target, NONE, NONE);
        for (int i = 0; i < j && number != NONE; i++) {
            number = peer.table.closestBeyond(target, number ^ target, NONE);
        }
        return number;
    }

    public int entry(int p, int j) {
        Peer peer = upPeer(p);
        if (peer == null || j < 0 || j >= peer.entries.count) {
            return NONE;
        }
        Entries entries = peer.entries;
        return entries.keys[j] + 256 * entries.holders[j] + 65536 * (entries.ends[j] - now);
    }

    private static boolean isNumber(int n) {
        return n >= 0 && n < NUMBERS;
    }

    private static int tokenOf(int p, int q, int epoch) {
        int x = 40503 * p + 9973 * q + 30011 * epoch;
        return (x ^ (x >>> 7)) & 65535;
    }

    private int epochNow() {
        return 1 + now / TICKS_IN_EPOCH;
    }

    private Peer upPeer(int p) {
        Peer peer = knownPeer(p);
        return peer != null && peer.up ? peer : null;
    }

    private Peer knownPeer(int p) {
        for (int i = 0; i < enrolled; i++) {
            Peer peer = peers[i];
            if (peer != null && peer.number == p) {
                return peer;
            }
        }
        return null;
    }

    private Peer enrolIfRoom(int p) {
        Peer peer = knownPeer(p);
        if (peer != null || enrolled >= PEER_LIMIT) {
            return peer;
        }
        peer = new Peer(p);
        // Kept in the order of their numbers, because a tick goes through them so.
        int at = enrolled;
        while (at > 0 && peers[at - 1] != null && peers[at - 1].number > p) {
            peers[at] = peers[at - 1];
            at--;
        }
        peers[at] = peer;
        enrolled++;
        return peer;
    }

    private Bucket bucketOf(int p, int b) {
        Peer peer = upPeer(p);
        if (peer == null || b < 0 || b >= peer.table.count) {
            return null;
        }
        return peer.table.rows[b];
    }

    private void startLookup(Peer peer, int kind, int target) {
        lastSerial++;
        peer.table.touch(target, now);
        peer.lookup.start(kind, target, lastSerial);
        int number = peer.table.closestBeyond(target, NONE, NONE);
        for (int i = 0; i < CLOSE && number != NONE; i++) {
            peer.lookup.addCandidate(number);
            number = peer.table.closestBeyond(target, number ^ target, NONE);
        }
        goOn(peer);
    }

    private void goOn(Peer peer) {
        Lookup lookup = peer.lookup;
        int next = lookup.nextToAsk();
        for (int i = 0; i < Lookup.ASKED_AT_ONCE && next != NONE; i++) {
            ask(peer, next);
            next = lookup.nextToAsk();
        }
        if (lookup.askedCount() == 0) {
            lookup.stage = Lookup.ENDED;
            if (lookup.kind == ANNOUNCE) {
                sendStores(peer);
            }
        }
    }

    private void ask(Peer peer, int j) {
        Lookup lookup = peer.lookup;
        lookup.marks[j] = Lookup.ASKED;
        lookup.askedAt[j] = now;
        int kind = lookup.kind == GET ? GET : FIND;
        write(kind, peer.number, lookup.numbers[j], lookup.serial, lookup.target, NONE);
        line.addOrLose(draft);
    }

    private void sendStores(Peer peer) {
        Lookup lookup = peer.lookup;
        int sent = 0;
        for (int j = 0; j < lookup.count && sent < CLOSE; j++) {
            if (lookup.marks[j] != Lookup.FAILED) {
                write(STORE, peer.number, lookup.numbers[j], lookup.serial, lookup.target,
                        lookup.tokens[j]);
                line.addOrLose(draft);
                sent++;
            }
        }
    }

    private void write(int kind, int sender, int receiver, int serial, int target, int token) {
        Arrays.fill(draft, NONE);
        draft[KIND] = kind;
        draft[SENDER] = sender;
        draft[RECEIVER] = receiver;
        draft[SERIAL] = serial;
        draft[TARGET] = target;
        draft[TOKEN] = token;
    }

    private void answerQuery(Peer receiver) {
        int asker = taken[SENDER];
        int target = taken[TARGET];
        int token = tokenOf(receiver.number, asker, epochNow());
        write(NODES, receiver.number, asker, taken[SERIAL], NONE, token);
        int number = receiver.table.closestBeyond(target, NONE, asker);
        for (int i = 0; i < CLOSE && number != NONE; i++) {
            draft[CONTACTS + i] = number;
            number = receiver.table.closestBeyond(target, number ^ target, asker);
        }
        if (taken[KIND] == GET) {
            writeHolders(receiver.entries, target);
        }
        line.addOrLose(draft);
    }

    private void writeHolders(Entries entries, int key) {
        int written = 0;
        for (int j = 0; j < entries.count && written < CLOSE; j++) {
            if (entries.keys[j] == key) {
                draft[HOLDERS + written] = entries.holders[j];
                written++;
            }
        }
    }

    private void takeNodes(Peer receiver) {
        Lookup lookup = receiver.lookup;
        if (!lookup.isRunning() || lookup.serial != taken[SERIAL]) {
            return;
        }
        int j = lookup.placeOf(taken[SENDER]);
        if (j == NONE || lookup.marks[j] != Lookup.ASKED) {
            return;
        }
        lookup.marks[j] = Lookup.ANSWERED;
        lookup.tokens[j] = taken[TOKEN];
        for (int i = 0; i < CLOSE; i++) {
            lookup.addCandidate(taken[CONTACTS + i]);
            lookup.addHolder(taken[HOLDERS + i]);
        }
        goOn(receiver);
    }

    private void takeStore(Peer receiver) {
        int sender = taken[SENDER];
        int token = taken[TOKEN];
        int epoch = epochNow();
        if (token == tokenOf(receiver.number, sender, epoch)
                || token == tokenOf(receiver.number, sender, epoch - 1)) {
            receiver.entries.keep(taken[TARGET], sender, now + ENTRY_LASTS);
        }
    }

    private int giveUpOnSilent(Peer peer) {
        Lookup lookup = peer.lookup;
        if (!lookup.isRunning()) {
            return 0;
        }
        int failed = 0;
        for (int j = 0; j < lookup.count; j++) {
            if (lookup.marks[j] == Lookup.ASKED && now - lookup.askedAt[j] >= FAILED_AFTER) {
                lookup.marks[j] = Lookup.FAILED;
                peer.table.addMiss(lookup.numbers[j]);
                failed++;
            }
        }
        goOn(peer);
        return failed;
    }

    private static final class Peer {
        final int number;
        final Table table;
        final Lookup lookup;
        final Entries entries;
        boolean up;

        Peer(int number) {
            this.number = number;
            table = new Table(number);
            lookup = new Lookup();
            entries = new Entries();
            up = false;
        }

        void startAnew(int now) {
            up = true;
            table.reset(now);
            lookup.forget();
            entries.count = 0;
        }
    }

    private static final class Table {
        // A range of 256 numbers can be halved eight times, one half of it each time.
        private static final int BUCKET_LIMIT = 9;

        final int owner;
        final Bucket[] rows;
        int count;

        Table(int owner) {
            this.owner = owner;
            rows = new Bucket[BUCKET_LIMIT];
            for (int b = 0; b < BUCKET_LIMIT; b++) {
                rows[b] = new Bucket();
            }
            count = 0;
        }

        void reset(int now) {
            rows[0].open(0, NUMBERS, now);
            count = 1;
        }

        void see(int number, int now) {
            // No peer is a contact of its own.
            if (number == owner) {
                return;
            }
            int b = rangeOf(number);
            int j = rows[b].placeOf(number);
            if (j != NONE) {
                rows[b].removeAt(j);
                rows[b].append(number, 0);
                rows[b].touched = now;
                return;
            }
            for (int i = count; i < BUCKET_LIMIT && rows[b].mustSplitFor(owner); i++) {
                split(b);
                b = rangeOf(number);
            }
            if (rows[b].makeRoom()) {
                rows[b].append(number, 0);
                rows[b].touched = now;
            }
        }

        void touch(int number, int now) {
            rows[rangeOf(number)].touched = now;
        }

        void addMiss(int number) {
            Bucket bucket = rows[rangeOf(number)];
            int j = bucket.placeOf(number);
            if (j != NONE) {
                bucket.misses[j]++;
            }
        }

        // Asked again with the distance of its last answer, it tells the contacts in their
        // order without a row to sort them in.
        int closestBeyond(int target, int distance, int leftOut) {
            int best = NONE;
            for (int b = 0; b < count; b++) {
                Bucket bucket = rows[b];
                for (int j = 0; j < bucket.count; j++) {
                    int number = bucket.numbers[j];
                    if (number != leftOut && (number ^ target) > distance
                            && (best == NONE || (number ^ target) < (best ^ target))) {
                        best = number;
                    }
                }
            }
            return best;
        }

        int staleTarget(int now) {
            for (int b = 0; b < count; b++) {
                Bucket bucket = rows[b];
                if (bucket.size > 0 && now - bucket.touched >= STALE_AFTER) {
                    return bucket.first + now % bucket.size;
                }
            }
            return NONE;
        }

        private int rangeOf(int number) {
            int b = 0;
            while (b + 1 < count && rows[b + 1].first <= number) {
                b++;
            }
            return b;
        }

        private void split(int b) {
            // The row behind the last one is free: it becomes the upper half.
            Bucket upper = rows[count];
            for (int i = count; i > b + 1; i--) {
                rows[i] = rows[i - 1];
            }
            rows[b + 1] = upper;
            count++;
            rows[b].moveUpperHalf(upper);
        }
    }

    private static final class Bucket {
        private static final int ROOM = 3;
        private static final int MISSES_TO_YIELD = 2;

        final int[] numbers;
        final int[] misses;
        int first;
        int size;
        int touched;
        int count;

        Bucket() {
            numbers = new int[ROOM];
            misses = new int[ROOM];
            first = 0;
            size = 0;
            touched = 0;
            count = 0;
        }

        void open(int first, int size, int touched) {
            this.first = first;
            this.size = size;
            this.touched = touched;
            count = 0;
        }

        boolean mustSplitFor(int owner) {
            return isFull() && owner >= first && owner < first + size;
        }

        boolean isFull() {
            return count >= ROOM;
        }

        int placeOf(int number) {
            for (int j = 0; j < count; j++) {
                if (numbers[j] == number) {
                    return j;
                }
            }
            return NONE;
        }

        void append(int number, int missed) {
            if (count < ROOM) {
                numbers[count] = number;
                misses[count] = missed;
                count++;
            }
        }

        void removeAt(int j) {
            for (int i = j; i + 1 < count; i++) {
                numbers[i] = numbers[i + 1];
                misses[i] = misses[i + 1];
            }
            count--;
        }

        boolean makeRoom() {
            for (int j = 0; j < count && isFull(); j++) {
                if (misses[j] >= MISSES_TO_YIELD) {
                    removeAt(j);
                }
            }
            return !isFull();
        }

        void moveUpperHalf(Bucket upper) {
            int held = count;
            size = size / 2;
            count = 0;
            upper.open(first + size, size, touched);
            for (int j = 0; j < held; j++) {
                Bucket half = numbers[j] < upper.first ? this : upper;
                half.append(numbers[j], misses[j]);
            }
        }
    }

    private static final class Lookup {
        private static final int ABSENT = 0;
        private static final int RUNNING = 1;
        private static final int ENDED = 2;
        private static final int NEW = 0;
        private static final int ASKED = 1;
        private static final int ANSWERED = 2;
        private static final int FAILED = 3;
        private static final int ASKED_AT_ONCE = 2;

        final int[] numbers;
        final int[] marks;
        final int[] askedAt;
        final int[] tokens;
        final int[] holders;
        int stage;
        int kind;
        int target;
        int serial;
        int count;
        int holderCount;

        Lookup() {
            // Only numbers that have joined become candidates or holders.
            numbers = new int[PEER_LIMIT];
            marks = new int[PEER_LIMIT];
            askedAt = new int[PEER_LIMIT];
            tokens = new int[PEER_LIMIT];
            holders = new int[PEER_LIMIT];
            stage = ABSENT;
            count = 0;
            holderCount = 0;
        }

        void forget() {
            stage = ABSENT;
            count = 0;
            holderCount = 0;
        }

        void start(int kind, int target, int serial) {
            forget();
            this.kind = kind;
            this.target = target;
            this.serial = serial;
            stage = RUNNING;
        }

        boolean isRunning() {
            return stage == RUNNING;
        }

        boolean hasCandidate(int j) {
            return j >= 0 && j < count;
        }

        int placeOf(int number) {
            for (int j = 0; j < count; j++) {
                if (numbers[j] == number) {
                    return j;
                }
            }
            return NONE;
        }

        void addCandidate(int number) {
            if (number == NONE || count >= PEER_LIMIT || placeOf(number) != NONE) {
                return;
            }
            int at = count;
            while (at > 0 && (numbers[at - 1] ^ target) > (number ^ target)) {
                numbers[at] = numbers[at - 1];
                marks[at] = marks[at - 1];
                askedAt[at] = askedAt[at - 1];
                tokens[at] = tokens[at - 1];
                at--;
            }
            numbers[at] = number;
            marks[at] = NEW;
            askedAt[at] = NONE;
            tokens[at] = NONE;
            count++;
        }

        void addHolder(int number) {
            if (number == NONE || holderCount >= PEER_LIMIT) {
                return;
            }
            for (int j = 0; j < holderCount; j++) {
                if (holders[j] == number) {
                    return;
                }
            }
            holders[holderCount] = number;
            holderCount++;
        }

        int askedCount() {
            int asked = 0;
            for (int j = 0; j < count; j++) {
                if (marks[j] == ASKED) {
                    asked++;
                }
            }
            return asked;
        }

        int nextToAsk() {
            if (askedCount() >= ASKED_AT_ONCE) {
                return NONE;
            }
            int passed = 0;
            for (int j = 0; j < count && passed < CLOSE; j++) {
                if (marks[j] == NEW) {
                    return j;
                }
                if (marks[j] != FAILED) {
                    passed++;
                }
            }
            return NONE;
        }
    }

    private static final class Entries {
        private static final int ROOM = 6;

        final int[] keys;
        final int[] holders;
        final int[] ends;
        int count;

        Entries() {
            keys = new int[ROOM];
            holders = new int[ROOM];
            ends = new int[ROOM];
            count = 0;
        }

        void keep(int key, int holder, int end) {
            for (int j = 0; j < count; j++) {
                if (keys[j] == key && holders[j] == holder) {
                    ends[j] = end;
                    return;
                }
            }
            put(key, holder, end);
        }

        void removeEnded(int now) {
            int held = count;
            count = 0;
            for (int j = 0; j < held; j++) {
                if (ends[j] > now) {
                    put(keys[j], holders[j], ends[j]);
                }
            }
        }

        private void put(int key, int holder, int end) {
            if (count < ROOM) {
                keys[count] = key;
                holders[count] = holder;
                ends[count] = end;
                count++;
            }
        }
    }

    // All rows stand in one array, one behind another, so that no datagram costs an object.
    private static final class Line {
        private static final int ROOM = 24;

        final int[] cells;
        int count;

        Line() {
            cells = new int[ROOM * CELLS];
            count = 0;
        }

        boolean has(int k) {
            return k >= 0 && k < count;
        }

        int cell(int k, int what) {
            return cells[k * CELLS + what];
        }

        void addOrLose(int[] row) {
            if (count < ROOM) {
                System.arraycopy(row, 0, cells, count * CELLS, CELLS);
                count++;
            }
        }

        void copyOut(int k, int[] row) {
            System.arraycopy(cells, k * CELLS, row, 0, CELLS);
        }

        void remove(int k) {
            int behind = count - 1 - k;
            System.arraycopy(cells, (k + 1) * CELLS, cells, k * CELLS, behind * CELLS);
            count--;
        }
    }
}
