import java.util.ArrayDeque;
import java.util.ArrayList;
import java.util.Collections;
import java.util.HashSet;
import java.util.List;
import java.util.Set;

/** The document once more, told with objects and recursion: what PaneDesk answers is compared with it. */
final class Model {
    private static final class Node {
        int number;
        int kind;
        int colour;
        int[] wish;
        int weight;
        int gap;
        int layout;
        int shiftX;
        int shiftY;
        int value;
        boolean visible = true;
        boolean enabled = true;
        boolean on;
        int effect;
        int target;
        Node parent;
        final List<Node> children = new ArrayList<>();

        boolean isSeen() {
            return visible && (parent == null || parent.isSeen());
        }

        boolean isAble() {
            return enabled && (parent == null || parent.isAble());
        }

        void addAllTo(List<Node> list) {
            list.add(this);
            for (Node child : children) {
                child.addAllTo(list);
            }
        }

        /** Left, upper, width, height. */
        int[] rectangle() {
            if (parent == null) {
                return wish.clone();
            }
            int[] outer = parent.rectangle();
            if (parent.layout == 0) {
                return new int[] {outer[0] + wish[0] - parent.shiftX, outer[1] + wish[1] - parent.shiftY,
                    wish[2], wish[3]};
            }
            if (!visible) {
                return new int[] {outer[0], outer[1], wish[2], wish[3]};
            }
            boolean row = parent.layout == 1;
            List<Node> line = new ArrayList<>(parent.children);
            line.removeIf(node -> !node.visible);
            int[] lengths = lengths(line, row ? outer[2] : outer[3], parent.gap, row ? 2 : 3);
            int behind = 0;
            int index = line.indexOf(this);
            for (int i = 0; i < index; i++) {
                behind += lengths[i] + parent.gap;
            }
            int x = outer[0] - parent.shiftX;
            int y = outer[1] - parent.shiftY;
            return row ? new int[] {x + behind, y, lengths[index], outer[3]}
                    : new int[] {x, y + behind, outer[2], lengths[index]};
        }

        private static int[] lengths(List<Node> line, int room, int gap, int what) {
            int[] lengths = line.stream().mapToInt(node -> node.wish[what]).toArray();
            int weights = line.stream().mapToInt(node -> node.weight).sum();
            int left = room - gap * (line.size() - 1);
            for (int length : lengths) {
                left -= length;
            }
            if (left <= 0 || weights == 0) {
                return lengths;
            }
            int rest = left;
            for (int i = 0; i < lengths.length; i++) {
                int share = left * line.get(i).weight / weights;
                lengths[i] += share;
                rest -= share;
            }
            for (int i = 0; rest > 0; i++) {
                if (line.get(i).weight > 0) {
                    lengths[i]++;
                    rest--;
                }
            }
            return lengths;
        }

        boolean isIn(int x, int y) {
            int[] r = rectangle();
            return x >= r[0] && y >= r[1] && x < r[0] + r[2] && y < r[1] + r[3];
        }

        boolean isClippedIn(int x, int y) {
            return isIn(x, y) && (parent == null || parent.isClippedIn(x, y));
        }
    }

    private final Node[] nodes = new Node[12];
    private final ArrayDeque<int[]> queue = new ArrayDeque<>();
    private final List<Integer> notes = new ArrayList<>();
    private final int[][] pixels = new int[16][32];
    private Node over;
    private Node pressed;
    private Node focus;

    Model() {
        nodes[0] = new Node();
        nodes[0].wish = new int[] {0, 0, 32, 16};
        nodes[0].colour = 1;
    }

    private Node node(int number) {
        return number >= 0 && number < 12 ? nodes[number] : null;
    }

    private static boolean bad(int n, int least, int greatest) {
        return n < least || n > greatest;
    }

    private static boolean badWish(int x, int y, int w, int h) {
        return bad(x, -40, 40) || bad(y, -40, 40) || bad(w, 1, 32) || bad(h, 1, 32);
    }

    int make(int parent, int kind, int x, int y, int w, int h, int colour) {
        if (node(parent) == null || bad(kind, 0, 3) || badWish(x, y, w, h) || bad(colour, 0, 15)) {
            return -1;
        }
        for (int i = 0; i < 12; i++) {
            if (nodes[i] == null) {
                Node made = new Node();
                made.number = i;
                made.kind = kind;
                made.wish = new int[] {x, y, w, h};
                made.colour = colour;
                made.parent = nodes[parent];
                nodes[parent].children.add(made);
                nodes[i] = made;
                return i;
            }
        }
        return -2;
    }

    int remove(int widget) {
        Node top = node(widget);
        if (top == null || widget == 0) {
            return -1;
        }
        List<Node> gone = new ArrayList<>();
        top.addAllTo(gone);
        top.parent.children.remove(top);
        for (Node node : gone) {
            nodes[node.number] = null;
            over = over == node ? null : over;
            pressed = pressed == node ? null : pressed;
            focus = focus == node ? null : focus;
        }
        return gone.size();
    }

    int wish(int widget, int x, int y, int w, int h) {
        if (node(widget) == null || widget == 0 || badWish(x, y, w, h)) {
            return 0;
        }
        nodes[widget].wish = new int[] {x, y, w, h};
        return 1;
    }

    int arrange(int widget, int layout, int gap, int weight) {
        if (node(widget) == null || bad(layout, 0, 2) || bad(gap, 0, 3) || bad(weight, 0, 3)) {
            return 0;
        }
        nodes[widget].layout = layout;
        nodes[widget].gap = gap;
        nodes[widget].weight = weight;
        return 1;
    }

    int shift(int widget, int x, int y) {
        if (node(widget) == null || bad(x, -20, 20) || bad(y, -20, 20)) {
            return 0;
        }
        nodes[widget].shiftX = x;
        nodes[widget].shiftY = y;
        return 1;
    }

    int change(int widget, int what, int v) {
        Node node = node(widget);
        if (node == null || bad(what, 0, 3) || what == 0 && bad(v, 0, 15) || what == 3 && widget == 0) {
            return 0;
        }
        if (what == 0) {
            node.colour = v;
        } else if (what == 1) {
            node.visible = v != 0;
        } else if (what == 2) {
            node.enabled = v != 0;
        } else {
            List<Node> siblings = node.parent.children;
            siblings.remove(node);
            siblings.add(v != 0 ? siblings.size() : 0, node);
        }
        return 1;
    }

    int effect(int widget, int effect, int target) {
        if (node(widget) == null || bad(effect, 0, 6) || bad(target, 0, 11)) {
            return 0;
        }
        nodes[widget].effect = effect;
        nodes[widget].target = target;
        return 1;
    }

    int post(int kind, int x, int y) {
        boolean pointer = kind >= 0 && kind <= 2;
        if (bad(kind, 0, 4) || pointer && (bad(x, -8, 39) || bad(y, -8, 23)) || kind == 3 && bad(x, 0, 9)) {
            return -1;
        }
        if (kind == 0 && !queue.isEmpty() && queue.getLast()[0] == 0) {
            queue.removeLast();
        }
        if (queue.size() == 16) {
            return -2;
        }
        queue.addLast(new int[] {kind, x, y});
        return queue.size();
    }

    int pump(int n) {
        if (bad(n, 0, 16)) {
            return -1;
        }
        int done = 0;
        while (done < n && !queue.isEmpty()) {
            int[] event = queue.removeFirst();
            carryOut(event[0], event[1], event[2]);
            done++;
        }
        for (int y = 0; y < 16; y++) {
            for (int x = 0; x < 32; x++) {
                pixels[y][x] = drawn(nodes[0], x, y, 0);
            }
        }
        return done;
    }

    /** The colour of a pixel after a widget and all below it have been drawn over the one it had. */
    private int drawn(Node node, int x, int y, int before) {
        if (!node.visible || !node.isIn(x, y)) {
            return before;
        }
        int colour = before;
        if (node.colour != 0) {
            colour = node.colour;
            boolean held = node.kind == 1 && pressed == node && over == node;
            if (node.kind == 2 && node.on || held) {
                colour = colour >= 8 ? colour - 8 : colour + 8;
            }
            colour = node.isAble() ? colour : colour % 8;
        }
        int[] r = node.rectangle();
        boolean inner = x > r[0] && x < r[0] + r[2] - 1 && y > r[1] && y < r[1] + r[3] - 1;
        if (node == focus && !inner) {
            colour = 15;
        }
        for (Node child : node.children) {
            colour = drawn(child, x, y, colour);
        }
        return colour;
    }

    private Node nodeAt(int x, int y) {
        List<Node> all = new ArrayList<>();
        nodes[0].addAllTo(all);
        Collections.reverse(all);
        for (Node node : all) {
            if (node.isSeen() && node.isClippedIn(x, y)) {
                return node;
            }
        }
        return null;
    }

    private void carryOut(int kind, int x, int y) {
        if (kind <= 2) {
            Node before = over;
            over = nodeAt(x, y);
            if (before != over && before != null) {
                notes.add(16 + before.number);
            }
            if (before != over && over != null) {
                notes.add(32 + over.number);
            }
        }
        if (kind == 1 && over != null && over.isAble()) {
            pressed = over;
            notes.add(48 + over.number);
            focusOn(over);
        } else if (kind == 2) {
            Node released = pressed;
            pressed = null;
            if (released != null && released == over && released.isAble()) {
                act(released, new HashSet<>());
            }
        } else if (kind == 3 && focus != null && focus.isSeen() && focus.isAble()) {
            if (focus.kind == 3) {
                focus.value = (10 * focus.value + x) % 1000;
                notes.add(64 + focus.number);
            } else if (x == 0) {
                act(focus, new HashSet<>());
            }
        } else if (kind == 4) {
            tab();
        }
    }

    private void tab() {
        List<Node> all = new ArrayList<>();
        nodes[0].addAllTo(all);
        int from = all.indexOf(focus) + 1;
        List<Node> order = new ArrayList<>(all.subList(from, all.size()));
        order.addAll(all.subList(0, from));
        order.removeIf(node -> node.kind == 0 || !node.isSeen() || !node.isAble());
        if (!order.isEmpty()) {
            focusOn(order.get(0));
        }
    }

    private void focusOn(Node node) {
        if (node.kind != 0 && node != focus) {
            focus = node;
            notes.add(80 + node.number);
        }
    }

    private void act(Node node, Set<Node> acted) {
        if (!acted.add(node)) {
            return;
        }
        notes.add(96 + node.number);
        node.on ^= node.kind == 2;
        Node target = nodes[node.target];
        if (target == null) {
            return;
        }
        switch (node.effect) {
            case 1 -> target.visible = !target.visible;
            case 2 -> target.enabled = !target.enabled;
            case 3 -> change(target.number, 3, 1);
            case 4 -> {
                target.shiftX = target.shiftX == 20 ? -20 : target.shiftX + 1;
                target.shiftY = target.shiftY == 20 ? -20 : target.shiftY + 1;
            }
            case 5 -> focusOn(target);
            case 6 -> act(target, acted);
            default -> { }
        }
    }

    int pixel(int x, int y) {
        return bad(x, 0, 31) || bad(y, 0, 15) ? -1 : pixels[y][x];
    }

    int screen() {
        int h = 0;
        for (int[] line : pixels) {
            for (int colour : line) {
                h = h * 31 + colour;
            }
        }
        return h;
    }

    private static int numberOf(Node node) {
        return node == null ? -1 : node.number;
    }

    int at(int x, int y) {
        return numberOf(nodeAt(x, y));
    }

    int rectangle(int widget, int what) {
        return node(widget) == null || bad(what, 0, 3) ? -1000 : nodes[widget].rectangle()[what];
    }

    int state(int widget, int what) {
        Node node = node(widget);
        if (node == null) {
            return -1;
        }
        return switch (what) {
            case 0 -> node.value;
            case 1 -> node.on ? 1 : 0;
            case 2 -> node.isSeen() ? 1 : 0;
            case 3 -> node.isAble() ? 1 : 0;
            case 4 -> numberOf(node.parent);
            case 5 -> node.children.size();
            default -> -1;
        };
    }

    int special(int what) {
        return switch (what) {
            case 0 -> numberOf(over);
            case 1 -> numberOf(pressed);
            case 2 -> numberOf(focus);
            default -> -2;
        };
    }

    int noted(int k) {
        if (k == -1) {
            return notes.size();
        }
        return bad(k, 0, 15) || k >= notes.size() ? 0 : notes.get(notes.size() - 1 - k);
    }
}
