import java.util.ArrayList;
import java.util.List;

/**
 * The valley once more, written for plainness: what branches tell is not kept but reckoned from
 * the single terraces and from what waits, and expressions are trees that are made, not read.
 */
final class Model {
    /** A sum, or a test that tells 1 or 0. */
    interface Expression {
        int value(Model model);
    }

    /** A line of the language. */
    static final class Order {
        final String word;
        final Expression amount;
        final Expression from;
        final Expression to;
        final Expression test;

        Order(String word, Expression amount, Expression from, Expression to, Expression test) {
            this.word = word;
            this.amount = amount;
            this.from = from;
            this.to = to;
            this.test = test;
        }
    }

    /** A branch with what waits there, or a single terrace with its own height. */
    static final class Node {
        final int number;
        final int first;
        final int last;
        final Node[] under;
        Integer level = null;
        int rain = 0;
        int own = 0;

        Node(int number, int first, int last) {
            this.number = number;
            this.first = first;
            this.last = last;
            int middle = (first + last) / 2;
            under = first == last ? new Node[0]
                    : new Node[] {new Node(2 * number, first, middle), new Node(2 * number + 1, middle + 1, last)};
        }

        Node(Node other) {
            number = other.number;
            first = other.first;
            last = other.last;
            level = other.level;
            rain = other.rain;
            own = other.own;
            under = new Node[other.under.length];
            for (int i = 0; i < under.length; i++) {
                under[i] = new Node(other.under[i]);
            }
        }

        boolean waits() {
            return level != null || rain != 0;
        }

        /** The heights of its terraces, as it tells them. */
        List<Integer> told() {
            List<Integer> heights = new ArrayList<>();
            if (under.length == 0) {
                heights.add(own);
            }
            for (Node node : under) {
                for (int height : node.told()) {
                    heights.add((level != null ? level : height) + rain);
                }
            }
            return heights;
        }

        void comes(Integer newLevel, int moreRain) {
            if (newLevel != null) {
                own = newLevel;
                level = under.length == 0 ? null : newLevel;
                rain = 0;
            }
            own += moreRain;
            rain += under.length == 0 ? 0 : moreRain;
        }

        Node find(int wanted) {
            if (number == wanted) {
                return this;
            }
            for (Node node : under) {
                Node found = node.find(wanted);
                if (found != null) {
                    return found;
                }
            }
            return null;
        }

        void list(List<Node> all) {
            all.add(this);
            for (Node node : under) {
                node.list(all);
            }
        }
    }

    final List<Order> orders;
    final Node root;
    int days = 0;
    int pushes = 0;

    Model(int terraces, List<Order> orders) {
        this.orders = orders;
        root = new Node(1, 0, terraces - 1);
    }

    Model(Model other) {
        orders = other.orders;
        root = new Node(other.root);
        days = other.days;
        pushes = other.pushes;
    }

    int size() {
        return root.last + 1;
    }

    static long water(List<Integer> heights) {
        return heights.stream().mapToLong(h -> h).sum();
    }

    static int highest(List<Integer> heights) {
        return heights.stream().mapToInt(h -> h).max().getAsInt();
    }

    static int lowest(List<Integer> heights) {
        return heights.stream().mapToInt(h -> h).min().getAsInt();
    }

    List<Node> branches() {
        List<Node> all = new ArrayList<>();
        root.list(all);
        all.sort((a, b) -> a.number - b.number);
        return all;
    }

    int waiting() {
        return (int) branches().stream().filter(Node::waits).count();
    }

    int waitingOver(int terrace) {
        return (int) branches().stream().filter(b -> b.first <= terrace && terrace <= b.last && b.waits()).count();
    }

    int height(int terrace) {
        return root.told().get(terrace);
    }

    void open(Node node) {
        if (node.under.length == 0 || !node.waits()) {
            return;
        }
        pushes++;
        for (Node below : node.under) {
            below.comes(node.level, node.rain);
        }
        node.level = null;
        node.rain = 0;
    }

    int openAll() {
        int before = pushes;
        for (Node node : branches()) {
            open(node);
        }
        return pushes - before;
    }

    List<Node> reach(int from, int to) {
        List<Node> reached = new ArrayList<>();
        reach(root, from, to, reached);
        return reached;
    }

    private void reach(Node node, int from, int to, List<Node> reached) {
        if (node.last < from || node.first > to) {
            return;
        }
        if (from <= node.first && node.last <= to) {
            reached.add(node);
            return;
        }
        open(node);
        for (Node below : node.under) {
            reach(below, from, to, reached);
        }
    }

    List<Integer> look(int from, int to) {
        List<Integer> seen = new ArrayList<>();
        for (Node node : reach(from, to)) {
            seen.addAll(node.told());
        }
        return seen;
    }

    int rain(int from, int to, int amount) {
        List<Node> reached = reach(from, to);
        reached.forEach(node -> node.comes(null, amount));
        return reached.size();
    }

    long bringTo(int from, int to, int level) {
        long before = water(root.told());
        reach(from, to).forEach(node -> node.comes(level, 0));
        return water(root.told()) - before;
    }

    int lookForFirst(int height) {
        if (highest(root.told()) < height) {
            return -1;
        }
        Node node = root;
        while (node.under.length > 0) {
            open(node);
            node = highest(node.under[0].told()) >= height ? node.under[0] : node.under[1];
        }
        return node.first;
    }

    Model passDays(int howMany) {
        for (int day = 0; day < howMany; day++) {
            for (Order order : orders) {
                if (order.test == null || order.test.value(this) != 0) {
                    obey(order);
                }
            }
            days++;
        }
        return this;
    }

    private void obey(Order order) {
        int from = Math.floorMod(order.from.value(this), size());
        int to = Math.floorMod(order.to.value(this), size());
        int first = Math.min(from, to);
        int last = Math.max(from, to);
        if (order.word.equals("look")) {
            look(first, last);
            return;
        }
        int amount = order.amount.value(this);
        amount = amount > 999 ? 999 : amount < -999 ? -999 : amount;
        if (order.word.equals("rain")) {
            rain(first, last, amount);
        } else {
            bringTo(first, last, amount);
        }
    }

    int daysUntil(int terrace, int height) {
        Model ahead = new Model(this);
        for (int day = 0; day <= 30; day++) {
            if (ahead.height(terrace) >= height) {
                return day;
            }
            ahead.passDays(1);
        }
        return -1;
    }

    int bestShower(int howMany, int amount) {
        List<Integer> lowest = new ArrayList<>();
        for (int first = 0; first + howMany <= size(); first++) {
            List<Integer> heights = root.told();
            for (int i = first; i < first + howMany; i++) {
                heights.set(i, heights.get(i) + amount);
            }
            lowest.add(lowest(heights));
        }
        return lowest.indexOf(highest(lowest));
    }

    long digest() {
        List<Long> numbers = new ArrayList<>(List.of((long) size(), (long) branches().size(), (long) orders.size(),
                (long) days, (long) pushes, (long) waiting()));
        for (Node node : branches()) {
            List<Integer> told = node.told();
            numbers.addAll(List.of((long) node.number, water(told), (long) highest(told), (long) lowest(told),
                    (long) node.rain, node.level == null ? 0L : 1L, node.level == null ? 0L : node.level));
        }
        root.told().forEach(height -> numbers.add((long) height));
        long d = 977;
        for (long x : numbers) {
            d = d * 31 + x;
        }
        return d;
    }
}
