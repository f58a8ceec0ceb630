import java.util.ArrayList;
import java.util.Comparator;
import java.util.List;
import java.util.Map;
import java.util.TreeMap;
import java.util.TreeSet;

/**
 * The document once more, held in lists and maps and written apart from the class:
 * a slip would have to be made twice to go unseen.
 */
final class Model {
    private static final class Contact {
        final int number;
        int misses;

        Contact(int number, int misses) {
            this.number = number;
            this.misses = misses;
        }
    }

    private static final class Range {
        final int from;
        final int to;
        int touched;
        final List<Contact> contacts = new ArrayList<>();

        Range(int from, int to, int touched) {
            this.from = from;
            this.to = to;
            this.touched = touched;
        }

        boolean has(int number) {
            return from <= number && number <= to;
        }
    }

    private static final class Candidate {
        final int number;
        int state;
        int askedAt;
        int token;

        Candidate(int number) {
            this.number = number;
        }
    }

    private static final class Search {
        final int kind;
        final int target;
        final int serial;
        boolean running = true;
        final List<Candidate> candidates = new ArrayList<>();
        final List<Integer> found = new ArrayList<>();

        Search(int kind, int target, int serial) {
            this.kind = kind;
            this.target = target;
            this.serial = serial;
        }

        Candidate of(int number) {
            return candidates.stream().filter(c -> c.number == number).findFirst().orElse(null);
        }

        void add(int number) {
            if (of(number) == null) {
                candidates.add(new Candidate(number));
                candidates.sort(Comparator.comparingInt(c -> c.number ^ target));
            }
        }

        List<Candidate> firstThree() {
            return candidates.stream().filter(c -> c.state != 3).limit(3).toList();
        }

        long asked() {
            return candidates.stream().filter(c -> c.state == 1).count();
        }
    }

    private static final class Kept {
        final int key;
        final int holder;
        int until;

        Kept(int key, int holder, int until) {
            this.key = key;
            this.holder = holder;
            this.until = until;
        }
    }

    private static final class Node {
        final int number;
        final List<Range> table = new ArrayList<>();
        final List<Kept> kept = new ArrayList<>();
        Search search;

        Node(int number, int clock) {
            this.number = number;
            table.add(new Range(0, 255, clock));
        }

        Range rangeOf(int number) {
            return table.stream().filter(r -> r.has(number)).findFirst().orElseThrow();
        }

        Contact contact(int c) {
            return rangeOf(c).contacts.stream().filter(x -> x.number == c).findFirst().orElse(null);
        }

        List<Integer> byDistance(int target) {
            return table.stream().flatMap(r -> r.contacts.stream()).map(c -> c.number)
                    .sorted(Comparator.comparingInt(c -> c ^ target)).toList();
        }
    }

    private record Datagram(int kind, int sender, int receiver, int serial, int target, int token,
            List<Integer> contacts, List<Integer> holders) {
    }

    private final Map<Integer, Node> up = new TreeMap<>();
    private final TreeSet<Integer> ever = new TreeSet<>();
    private final List<Datagram> line = new ArrayList<>();
    private int clock = 0;
    private int serials = 0;

    boolean join(int p, int via) {
        if (p < 0 || p > 255 || up.containsKey(p) || via != -1 && !up.containsKey(via)) {
            return false;
        }
        if (!ever.contains(p) && ever.size() == 12) {
            return false;
        }
        ever.add(p);
        Node node = new Node(p, clock);
        up.put(p, node);
        if (via != -1) {
            sees(node, via);
            begins(node, 0, p);
        }
        return true;
    }

    boolean leave(int p) {
        return up.remove(p) != null;
    }

    boolean begin(int p, int kind, int target) {
        Node node = up.get(p);
        if (node == null || running(node) || kind < 0 || kind > 2 || target < 0 || target > 255) {
            return false;
        }
        begins(node, kind, target);
        return true;
    }

    int refresh(int p) {
        Node node = up.get(p);
        if (node == null || running(node)) {
            return -1;
        }
        for (Range range : node.table) {
            if (clock - range.touched >= 16) {
                int target = range.from + clock % (range.to - range.from + 1);
                begins(node, 0, target);
                return target;
            }
        }
        return -1;
    }

    int tick() {
        clock++;
        for (Node node : up.values()) {
            node.kept.removeIf(k -> k.until == clock);
        }
        int failed = 0;
        for (Node node : up.values()) {
            if (!running(node)) {
                continue;
            }
            for (Candidate candidate : node.search.candidates) {
                if (candidate.state == 1 && candidate.askedAt + 4 <= clock) {
                    candidate.state = 3;
                    failed++;
                    Contact contact = node.contact(candidate.number);
                    if (contact != null) {
                        contact.misses++;
                    }
                }
            }
            goesOn(node);
        }
        return failed;
    }

    int clock() {
        return clock;
    }

    int waiting() {
        return line.size();
    }

    int datagram(int k, int what) {
        if (k < 0 || k >= line.size()) {
            return -1;
        }
        Datagram d = line.get(k);
        return switch (what) {
            case 0 -> d.kind;
            case 1 -> d.sender;
            case 2 -> d.receiver;
            case 3 -> d.serial;
            case 4 -> d.target;
            case 5 -> d.token;
            case 6, 7, 8 -> at(d.contacts, what - 6);
            case 9, 10, 11 -> at(d.holders, what - 9);
            default -> -1;
        };
    }

    int deliver(int k) {
        if (k < 0 || k >= line.size()) {
            return -1;
        }
        Datagram d = line.remove(k);
        Node receiver = up.get(d.receiver);
        if (receiver == null) {
            return 0;
        }
        sees(receiver, d.sender);
        if (d.kind <= 1) {
            answers(receiver, d);
        } else if (d.kind == 2) {
            hears(receiver, d);
        } else {
            stores(receiver, d);
        }
        return 1;
    }

    boolean drop(int k) {
        if (k < 0 || k >= line.size()) {
            return false;
        }
        line.remove(k);
        return true;
    }

    int lookup(int p) {
        Node node = up.get(p);
        if (node == null) {
            return -1;
        }
        return node.search == null ? 0 : node.search.running ? 1 : 2;
    }

    int candidate(int p, int j) {
        Node node = up.get(p);
        if (node == null || node.search == null || j < 0 || j >= node.search.candidates.size()) {
            return -1;
        }
        Candidate candidate = node.search.candidates.get(j);
        return candidate.number + 256 * candidate.state;
    }

    int found(int p, int j) {
        Node node = up.get(p);
        return node == null || node.search == null ? -1 : at(node.search.found, j);
    }

    int buckets(int p) {
        Node node = up.get(p);
        return node == null ? -1 : node.table.size();
    }

    int bucket(int p, int b) {
        Range range = range(p, b);
        if (range == null) {
            return -1;
        }
        return range.from + 256 * range.contacts.size() + 1024 * (clock - range.touched);
    }

    int contact(int p, int b, int j) {
        Range range = range(p, b);
        if (range == null || j < 0 || j >= range.contacts.size()) {
            return -1;
        }
        return range.contacts.get(j).number + 256 * range.contacts.get(j).misses;
    }

    int closest(int p, int target, int j) {
        Node node = up.get(p);
        if (node == null || target < 0 || target > 255 || j > 2) {
            return -1;
        }
        return at(node.byDistance(target), j);
    }

    int entry(int p, int j) {
        Node node = up.get(p);
        if (node == null || j < 0 || j >= node.kept.size()) {
            return -1;
        }
        Kept kept = node.kept.get(j);
        return kept.key + 256 * kept.holder + 65536 * (kept.until - clock);
    }

    private Range range(int p, int b) {
        Node node = up.get(p);
        return node == null || b < 0 || b >= node.table.size() ? null : node.table.get(b);
    }

    private static int at(List<Integer> list, int j) {
        return j < 0 || j >= list.size() ? -1 : list.get(j);
    }

    private static boolean running(Node node) {
        return node.search != null && node.search.running;
    }

    private static int token(int p, int q, int e) {
        int x = 40503 * p + 9973 * q + 30011 * e;
        return (x ^ x >>> 7) & 65535;
    }

    private int epoch() {
        return 1 + clock / 8;
    }

    private void sees(Node node, int c) {
        Contact known = node.contact(c);
        Range range = node.rangeOf(c);
        if (known != null) {
            range.contacts.remove(known);
        } else if (range.contacts.size() == 3 && range.has(node.number)) {
            split(node, range);
            sees(node, c);
            return;
        } else if (range.contacts.size() == 3) {
            Contact tired = range.contacts.stream().filter(x -> x.misses >= 2)
                    .findFirst().orElse(null);
            if (tired == null) {
                return;
            }
            range.contacts.remove(tired);
        }
        range.contacts.add(new Contact(c, 0));
        range.touched = clock;
    }

    private static void split(Node node, Range range) {
        int middle = (range.from + range.to) / 2;
        Range lower = new Range(range.from, middle, range.touched);
        Range upper = new Range(middle + 1, range.to, range.touched);
        for (Contact contact : range.contacts) {
            (lower.has(contact.number) ? lower : upper).contacts.add(contact);
        }
        node.table.remove(range);
        node.table.add(lower);
        node.table.add(upper);
        node.table.sort(Comparator.comparingInt(r -> r.from));
    }

    private void send(Datagram datagram) {
        if (line.size() < 24) {
            line.add(datagram);
        }
    }

    private void answers(Node node, Datagram query) {
        List<Integer> contacts = node.byDistance(query.target).stream()
                .filter(c -> c != query.sender).limit(3).toList();
        List<Integer> holders = query.kind == 0 ? List.of() : node.kept.stream()
                .filter(k -> k.key == query.target).map(k -> k.holder).limit(3).toList();
        send(new Datagram(2, node.number, query.sender, query.serial, -1,
                token(node.number, query.sender, epoch()), contacts, holders));
    }

    private void hears(Node node, Datagram nodes) {
        if (!running(node) || node.search.serial != nodes.serial) {
            return;
        }
        Candidate candidate = node.search.of(nodes.sender);
        if (candidate == null || candidate.state != 1) {
            return;
        }
        candidate.state = 2;
        candidate.token = nodes.token;
        nodes.contacts.forEach(node.search::add);
        for (int holder : nodes.holders) {
            if (!node.search.found.contains(holder)) {
                node.search.found.add(holder);
            }
        }
        goesOn(node);
    }

    private void stores(Node node, Datagram store) {
        int now = token(node.number, store.sender, epoch());
        int before = token(node.number, store.sender, epoch() - 1);
        if (store.token != now && store.token != before) {
            return;
        }
        for (Kept kept : node.kept) {
            if (kept.key == store.target && kept.holder == store.sender) {
                kept.until = clock + 24;
                return;
            }
        }
        if (node.kept.size() < 6) {
            node.kept.add(new Kept(store.target, store.sender, clock + 24));
        }
    }

    private void begins(Node node, int kind, int target) {
        node.rangeOf(target).touched = clock;
        serials++;
        node.search = new Search(kind, target, serials);
        node.byDistance(target).stream().limit(3).forEach(node.search::add);
        goesOn(node);
    }

    private void goesOn(Node node) {
        Search search = node.search;
        while (search.asked() < 2) {
            Candidate next = search.firstThree().stream().filter(c -> c.state == 0)
                    .findFirst().orElse(null);
            if (next == null) {
                break;
            }
            next.state = 1;
            next.askedAt = clock;
            send(new Datagram(search.kind == 1 ? 1 : 0, node.number, next.number, search.serial,
                    search.target, -1, List.of(), List.of()));
        }
        if (search.asked() > 0) {
            return;
        }
        search.running = false;
        if (search.kind == 2) {
            for (Candidate candidate : search.firstThree()) {
                send(new Datagram(3, node.number, candidate.number, search.serial, search.target,
                        candidate.token, List.of(), List.of()));
            }
        }
    }
}
