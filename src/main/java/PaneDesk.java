/** A small window system: a tree of widgets, drawn and clipped, and the events that set them to work. */
public final class PaneDesk {
    public static final int REFUSED = -1, FULL = -2;

    private static final int NONE = -1;
    private static final int ROOT = 0;
    private static final int WIDGETS = 12;

    // Arrays of PAIRS hold two numbers of each widget: at 2 * widget + axis, axis 0 across, 1 downwards.
    private static final int PAIRS = 24;

    private static final int SCREEN_WIDTH = 32, SCREEN_HEIGHT = 16, PIXELS = 512;
    private static final int ROOT_COLOUR = 1, RIM_COLOUR = 15, GREATEST_COLOUR = 15;
    private static final int EXCHANGED_BIT = 8, DULL_BITS = 7;

    private static final int PANEL = 0, BUTTON = 1, BOX = 2, FIELD = 3;
    private static final int LAYOUT_NONE = 0, LAYOUT_COLUMN = 2;
    private static final int GREATEST_GAP = 3, GREATEST_WEIGHT = 3;
    private static final int GREATEST_PLACE = 40, GREATEST_SIZE = 32, GREATEST_SHIFT = 20;

    private static final int QUEUE = 16;
    private static final int MOVE = 0, PRESS = 1, RELEASE = 2, KEY = 3, TAB = 4;
    private static final int LEAST_POINTER = -8, GREATEST_POINTER_X = 39, GREATEST_POINTER_Y = 23;
    private static final int GREATEST_KEY = 9, VALUES = 1000;

    private static final int NOTES = 16;
    private static final int LEFT = 16, ENTERED = 32, WAS_PRESSED = 48, TYPED = 64, GOT_FOCUS = 80, ACTED = 96;

    private static final int EFFECT_NONE = 0, EFFECT_SHOW = 1, EFFECT_ENABLE = 2, EFFECT_RAISE = 3;
    private static final int EFFECT_SHIFT = 4, EFFECT_FOCUS = 5, EFFECT_ACT = 6;

    private static final int NO_RECTANGLE = -1000, NO_SPECIAL = -2;

    private final boolean[] there = new boolean[WIDGETS];
    private final int[] parents = new int[WIDGETS];
    private final int[] kinds = new int[WIDGETS];
    private final int[] colours = new int[WIDGETS];
    private final int[] weights = new int[WIDGETS];
    private final int[] gaps = new int[WIDGETS];
    private final int[] layouts = new int[WIDGETS];
    private final int[] values = new int[WIDGETS];
    private final int[] effects = new int[WIDGETS];
    private final int[] targets = new int[WIDGETS];
    private final boolean[] visible = new boolean[WIDGETS];
    private final boolean[] enabled = new boolean[WIDGETS];
    private final boolean[] on = new boolean[WIDGETS];
    private final int[] wishedPlaces = new int[PAIRS];
    private final int[] wishedSizes = new int[PAIRS];
    private final int[] shifts = new int[PAIRS];

    // All widgets but the root; those of one parent stand here from the lowest to the highest.
    private final int[] stack = new int[WIDGETS];
    private int stacked = 0;

    // What settle() works out of all the above, so that every other method can just look it up.
    private final int[] tree = new int[WIDGETS];
    private int treeSize = 0;
    private final boolean[] seen = new boolean[WIDGETS];
    private final boolean[] able = new boolean[WIDGETS];
    private final int[] places = new int[PAIRS];
    private final int[] sizes = new int[PAIRS];
    private final int[] clipStarts = new int[PAIRS];
    private final int[] clipEnds = new int[PAIRS];

    private int over = NONE;
    private int pressed = NONE;
    private int focus = NONE;

    private final int[] eventKinds = new int[QUEUE];
    private final int[] eventXs = new int[QUEUE];
    private final int[] eventYs = new int[QUEUE];
    private int waiting = 0;

    // Only the latest ones can be asked for, so the places are used again in turn.
    private final int[] notes = new int[NOTES];
    private int noteCount = 0;

    private final int[] pixels = new int[PIXELS];

    public PaneDesk() {
        begin(ROOT, NONE, PANEL, ROOT_COLOUR);
        setWish(ROOT, 0, 0, SCREEN_WIDTH, SCREEN_HEIGHT);
        settle();
    }

    public int make(int parent, int kind, int x, int y, int w, int h, int colour) {
        if (!isThere(parent) || !isWithin(kind, PANEL, FIELD) || !isWish(x, y, w, h)
                || !isWithin(colour, 0, GREATEST_COLOUR)) {
            return REFUSED;
        }
        int widget = leastFree();
        if (widget == NONE) {
            return FULL;
        }
        begin(widget, parent, kind, colour);
        setWish(widget, x, y, w, h);
        putHighest(widget);
        settle();
        return widget;
    }

    public int remove(int widget) {
        if (!isThere(widget) || widget == ROOT) {
            return REFUSED;
        }
        takeAway(widget);
        int taken = 1;
        // The tree has each parent before its children, so one pass finds all that hung below.
        for (int i = 0; i < treeSize; i++) {
            int other = tree[i];
            if (other != ROOT && there[other] && !there[parents[other]]) {
                takeAway(other);
                taken++;
            }
        }
        settle();
        return taken;
    }

    public boolean wish(int widget, int x, int y, int w, int h) {
        if (!isThere(widget) || widget == ROOT || !isWish(x, y, w, h)) {
            return false;
        }
        setWish(widget, x, y, w, h);
        settle();
        return true;
    }

    public boolean arrange(int widget, int layout, int gap, int weight) {
        if (!isThere(widget) || !isWithin(layout, LAYOUT_NONE, LAYOUT_COLUMN)
                || !isWithin(gap, 0, GREATEST_GAP) || !isWithin(weight, 0, GREATEST_WEIGHT)) {
            return false;
        }
        layouts[widget] = layout;
        gaps[widget] = gap;
        weights[widget] = weight;
        settle();
        return true;
    }

    public boolean shift(int widget, int x, int y) {
        if (!isThere(widget) || !isWithin(x, -GREATEST_SHIFT, GREATEST_SHIFT)
                || !isWithin(y, -GREATEST_SHIFT, GREATEST_SHIFT)) {
            return false;
        }
        shifts[2 * widget] = x;
        shifts[2 * widget + 1] = y;
        settle();
        return true;
    }

    public boolean change(int widget, int what, int v) {
        if (!isThere(widget)) {
            return false;
        }
        switch (what) {
            case 0:
                if (!isWithin(v, 0, GREATEST_COLOUR)) {
                    return false;
                }
                colours[widget] = v;
                break;
            case 1:
                visible[widget] = v != 0;
                break;
            case 2:
                enabled[widget] = v != 0;
                break;
            case 3:
                if (widget == ROOT) {
                    return false;
                }
                if (v != 0) {
                    raise(widget);
                } else {
                    lower(widget);
                }
                break;
            default:
                return false;
        }
        settle();
        return true;
    }

    public boolean effect(int widget, int effect, int target) {
        if (!isThere(widget) || !isWithin(effect, EFFECT_NONE, EFFECT_ACT)
                || !isWithin(target, 0, WIDGETS - 1)) {
            return false;
        }
        effects[widget] = effect;
        targets[widget] = target;
        return true;
    }

    public int post(int kind, int x, int y) {
        if (!isEvent(kind, x, y)) {
            return REFUSED;
        }
        if (kind == MOVE && waiting > 0 && eventKinds[waiting - 1] == MOVE) {
            setEvent(waiting - 1, kind, x, y);
            return waiting;
        }
        if (waiting >= QUEUE) {
            return FULL;
        }
        setEvent(waiting, kind, x, y);
        waiting++;
        return waiting;
    }

    public int pump(int n) {
        if (!isWithin(n, 0, QUEUE)) {
            return REFUSED;
        }
        int count = n < waiting ? n : waiting;
        for (int i = 0; i < count; i++) {
            int actor = carryOut(eventKinds[i], eventXs[i], eventYs[i]);
            actInTurn(actor);
            settle();
        }
        dropEvents(count);
        draw();
        return count;
    }

    public int pixel(int x, int y) {
        if (!isWithin(x, 0, SCREEN_WIDTH - 1) || !isWithin(y, 0, SCREEN_HEIGHT - 1)) {
            return REFUSED;
        }
        return pixels[SCREEN_WIDTH * y + x];
    }

    public int screen() {
        int sum = 0;
        for (int i = 0; i < PIXELS; i++) {
            sum = sum * 31 + pixels[i];
        }
        return sum;
    }

    public int at(int x, int y) {
        int widget = widgetAt(x, y);
        return widget == NONE ? REFUSED : widget;
    }

    public int rectangle(int widget, int what) {
        if (!isThere(widget)) {
            return NO_RECTANGLE;
        }
        switch (what) {
            case 0:
            case 1:
                return places[2 * widget + what];
            case 2:
            case 3:
                return sizes[2 * widget + what - 2];
            default:
                return NO_RECTANGLE;
        }
    }

    public int state(int widget, int what) {
        if (!isThere(widget)) {
            return REFUSED;
        }
        switch (what) {
            case 0:
                return values[widget];
            case 1:
                return on[widget] ? 1 : 0;
            case 2:
                return seen[widget] ? 1 : 0;
            case 3:
                return able[widget] ? 1 : 0;
            case 4:
                return parents[widget];
            case 5:
                return countChildren(widget);
            default:
                return REFUSED;
        }
    }

    public int special(int what) {
        switch (what) {
            case 0:
                return over;
            case 1:
                return pressed;
            case 2:
                return focus;
            default:
                return NO_SPECIAL;
        }
    }

    public int noted(int k) {
        if (k == -1) {
            return noteCount;
        }
        if (!isWithin(k, 0, NOTES - 1) || k >= noteCount) {
            return 0;
        }
        return notes[(noteCount - 1 - k) & (NOTES - 1)];
    }

    // What arguments may be

    private static boolean isWithin(int number, int least, int greatest) {
        return number >= least && number <= greatest;
    }

    private boolean isThere(int widget) {
        return widget >= 0 && widget < WIDGETS && there[widget];
    }

    private static boolean isWish(int x, int y, int w, int h) {
        return isWithin(x, -GREATEST_PLACE, GREATEST_PLACE) && isWithin(y, -GREATEST_PLACE, GREATEST_PLACE)
                && isWithin(w, 1, GREATEST_SIZE) && isWithin(h, 1, GREATEST_SIZE);
    }

    private static boolean isEvent(int kind, int x, int y) {
        switch (kind) {
            case MOVE:
            case PRESS:
            case RELEASE:
                return isWithin(x, LEAST_POINTER, GREATEST_POINTER_X)
                        && isWithin(y, LEAST_POINTER, GREATEST_POINTER_Y);
            case KEY:
                return isWithin(x, 0, GREATEST_KEY);
            case TAB:
                return true;
            default:
                return false;
        }
    }

    // Widgets that come and go

    private int leastFree() {
        for (int widget = 0; widget < WIDGETS; widget++) {
            if (!there[widget]) {
                return widget;
            }
        }
        return NONE;
    }

    private void begin(int widget, int parent, int kind, int colour) {
        there[widget] = true;
        parents[widget] = parent;
        kinds[widget] = kind;
        colours[widget] = colour;
        weights[widget] = 0;
        gaps[widget] = 0;
        layouts[widget] = LAYOUT_NONE;
        values[widget] = 0;
        effects[widget] = EFFECT_NONE;
        targets[widget] = ROOT;
        visible[widget] = true;
        enabled[widget] = true;
        on[widget] = false;
        shifts[2 * widget] = 0;
        shifts[2 * widget + 1] = 0;
    }

    private void setWish(int widget, int x, int y, int w, int h) {
        wishedPlaces[2 * widget] = x;
        wishedPlaces[2 * widget + 1] = y;
        wishedSizes[2 * widget] = w;
        wishedSizes[2 * widget + 1] = h;
    }

    private void takeAway(int widget) {
        there[widget] = false;
        unstack(widget);
        if (over == widget) {
            over = NONE;
        }
        if (pressed == widget) {
            pressed = NONE;
        }
        if (focus == widget) {
            focus = NONE;
        }
    }

    private int countChildren(int widget) {
        int count = 0;
        for (int i = 0; i < stacked; i++) {
            if (parents[stack[i]] == widget) {
                count++;
            }
        }
        return count;
    }

    // The stack

    private void unstack(int widget) {
        int kept = 0;
        for (int i = 0; i < stacked; i++) {
            if (stack[i] != widget) {
                stack[kept] = stack[i];
                kept++;
            }
        }
        stacked = kept;
    }

    private void putHighest(int widget) {
        stack[stacked] = widget;
        stacked++;
    }

    private void putLowest(int widget) {
        for (int i = stacked; i > 0; i--) {
            stack[i] = stack[i - 1];
        }
        stack[0] = widget;
        stacked++;
    }

    private void raise(int widget) {
        if (widget != ROOT) {
            unstack(widget);
            putHighest(widget);
        }
    }

    private void lower(int widget) {
        if (widget != ROOT) {
            unstack(widget);
            putLowest(widget);
        }
    }

    // The tree and the rectangles

    private void settle() {
        orderTree();
        for (int axis = 0; axis < 2; axis++) {
            places[axis] = wishedPlaces[axis];
            sizes[axis] = wishedSizes[axis];
        }
        // In the tree's order, what a widget takes over from its parent is already worked out.
        for (int i = 0; i < treeSize; i++) {
            int widget = tree[i];
            inherit(widget);
            if (layouts[widget] == LAYOUT_NONE) {
                placeByHand(widget);
            } else {
                placeInLine(widget, layouts[widget] - 1);
            }
        }
    }

    private void orderTree() {
        tree[0] = ROOT;
        treeSize = 1;
        for (int i = 0; i < WIDGETS && i < treeSize; i++) {
            insertChildren(i);
        }
    }

    private void insertChildren(int position) {
        int next = position + 1;
        for (int i = 0; i < stacked; i++) {
            if (parents[stack[i]] == tree[position]) {
                insertInTree(next, stack[i]);
                next++;
            }
        }
    }

    private void insertInTree(int position, int widget) {
        for (int i = treeSize; i > position; i--) {
            tree[i] = tree[i - 1];
        }
        tree[position] = widget;
        treeSize++;
    }

    private void inherit(int widget) {
        int parent = parents[widget];
        seen[widget] = visible[widget] && (parent == NONE || seen[parent]);
        able[widget] = enabled[widget] && (parent == NONE || able[parent]);
        for (int axis = 0; axis < 2; axis++) {
            int start = places[2 * widget + axis];
            int end = start + sizes[2 * widget + axis];
            if (parent != NONE && start < clipStarts[2 * parent + axis]) {
                start = clipStarts[2 * parent + axis];
            }
            if (parent != NONE && end > clipEnds[2 * parent + axis]) {
                end = clipEnds[2 * parent + axis];
            }
            clipStarts[2 * widget + axis] = start;
            clipEnds[2 * widget + axis] = end;
        }
    }

    private void placeByHand(int parent) {
        for (int i = 0; i < stacked; i++) {
            int child = stack[i];
            if (parents[child] == parent) {
                for (int axis = 0; axis < 2; axis++) {
                    places[2 * child + axis] = places[2 * parent + axis] + wishedPlaces[2 * child + axis]
                            - shifts[2 * parent + axis];
                    sizes[2 * child + axis] = wishedSizes[2 * child + axis];
                }
            }
        }
    }

    private void placeInLine(int parent, int axis) {
        int leftOver = lengthLeftOver(parent, axis);
        int weightSum = sumOfWeights(parent);
        int ones = leftOver - sumOfShares(parent, leftOver, weightSum);
        int place = places[2 * parent + axis] - shifts[2 * parent + axis];
        for (int i = 0; i < stacked; i++) {
            int child = stack[i];
            if (parents[child] != parent) {
                continue;
            }
            if (!visible[child]) {
                setAside(child, parent);
                continue;
            }
            int length = wishedSizes[2 * child + axis] + share(child, leftOver, weightSum);
            if (weights[child] > 0 && ones > 0) {
                length++;
                ones--;
            }
            places[2 * child + axis] = place;
            sizes[2 * child + axis] = length;
            fitAcross(child, parent, 1 - axis);
            place += length + gaps[parent];
        }
    }

    private void fitAcross(int child, int parent, int axis) {
        places[2 * child + axis] = places[2 * parent + axis] - shifts[2 * parent + axis];
        sizes[2 * child + axis] = sizes[2 * parent + axis];
    }

    private void setAside(int child, int parent) {
        for (int axis = 0; axis < 2; axis++) {
            places[2 * child + axis] = places[2 * parent + axis];
            sizes[2 * child + axis] = wishedSizes[2 * child + axis];
        }
    }

    private boolean standsInLine(int child, int parent) {
        return parents[child] == parent && visible[child];
    }

    private int lengthLeftOver(int parent, int axis) {
        int count = 0;
        int rest = sizes[2 * parent + axis];
        for (int i = 0; i < stacked; i++) {
            if (standsInLine(stack[i], parent)) {
                rest -= wishedSizes[2 * stack[i] + axis];
                count++;
            }
        }
        if (count > 1) {
            rest -= (count - 1) * gaps[parent];
        }
        return rest > 0 ? rest : 0;
    }

    private int sumOfWeights(int parent) {
        int sum = 0;
        for (int i = 0; i < stacked; i++) {
            if (standsInLine(stack[i], parent)) {
                sum += weights[stack[i]];
            }
        }
        return sum;
    }

    private int sumOfShares(int parent, int leftOver, int weightSum) {
        int sum = 0;
        for (int i = 0; i < stacked; i++) {
            if (standsInLine(stack[i], parent)) {
                sum += share(stack[i], leftOver, weightSum);
            }
        }
        return sum;
    }

    private int share(int child, int leftOver, int weightSum) {
        return weightSum > 0 ? leftOver * weights[child] / weightSum : 0;
    }

    // The screen

    private boolean isAtPixel(int widget, int x, int y) {
        return seen[widget] && x >= clipStarts[2 * widget] && x < clipEnds[2 * widget]
                && y >= clipStarts[2 * widget + 1] && y < clipEnds[2 * widget + 1];
    }

    private int widgetAt(int x, int y) {
        int found = NONE;
        for (int i = 0; i < treeSize; i++) {
            if (isAtPixel(tree[i], x, y)) {
                found = tree[i];
            }
        }
        return found;
    }

    private void draw() {
        for (int i = 0; i < PIXELS; i++) {
            pixels[i] = 0;
        }
        for (int i = 0; i < treeSize; i++) {
            if (seen[tree[i]]) {
                drawWidget(tree[i]);
            }
        }
    }

    private void drawWidget(int widget) {
        int shade = shadeOf(widget);
        // The root's rectangle is the screen, so what is clipped to it has no pixel outside.
        for (int y = clipStarts[2 * widget + 1]; y < clipEnds[2 * widget + 1]; y++) {
            for (int x = clipStarts[2 * widget]; x < clipEnds[2 * widget]; x++) {
                if (focus == widget && isRim(widget, x, y)) {
                    pixels[SCREEN_WIDTH * y + x] = RIM_COLOUR;
                } else if (colours[widget] != 0) {
                    pixels[SCREEN_WIDTH * y + x] = shade;
                }
            }
        }
    }

    private int shadeOf(int widget) {
        int shade = colours[widget];
        boolean isOnBox = kinds[widget] == BOX && on[widget];
        boolean isHeldButton = kinds[widget] == BUTTON && pressed == widget && over == widget;
        if (isOnBox || isHeldButton) {
            shade ^= EXCHANGED_BIT;
        }
        if (!able[widget]) {
            shade &= DULL_BITS;
        }
        return shade;
    }

    private boolean isRim(int widget, int x, int y) {
        int left = places[2 * widget];
        int top = places[2 * widget + 1];
        return x == left || x == left + sizes[2 * widget] - 1
                || y == top || y == top + sizes[2 * widget + 1] - 1;
    }

    // Events

    private void setEvent(int position, int kind, int x, int y) {
        eventKinds[position] = kind;
        eventXs[position] = x;
        eventYs[position] = y;
    }

    private void dropEvents(int count) {
        for (int i = count; i < waiting; i++) {
            setEvent(i - count, eventKinds[i], eventXs[i], eventYs[i]);
        }
        waiting -= count;
    }

    /** Answers the widget that is to act because of the event, or NONE. */
    private int carryOut(int kind, int x, int y) {
        switch (kind) {
            case MOVE:
                hover(x, y);
                return NONE;
            case PRESS:
                hover(x, y);
                press();
                return NONE;
            case RELEASE:
                hover(x, y);
                return release();
            case KEY:
                return type(x);
            case TAB:
                moveFocus();
                return NONE;
            default:
                return NONE;
        }
    }

    private void hover(int x, int y) {
        int before = over;
        over = widgetAt(x, y);
        if (over == before) {
            return;
        }
        if (before != NONE) {
            note(LEFT + before);
        }
        if (over != NONE) {
            note(ENTERED + over);
        }
    }

    private void press() {
        if (over == NONE || !able[over]) {
            return;
        }
        pressed = over;
        note(WAS_PRESSED + over);
        giveFocus(over);
    }

    private int release() {
        int released = pressed;
        pressed = NONE;
        return released != NONE && released == over && able[released] ? released : NONE;
    }

    private int type(int key) {
        if (focus == NONE || !seen[focus] || !able[focus]) {
            return NONE;
        }
        if (kinds[focus] == FIELD) {
            values[focus] = (10 * values[focus] + key) % VALUES;
            note(TYPED + focus);
            return NONE;
        }
        return key == 0 ? focus : NONE;
    }

    private void moveFocus() {
        int position = positionInTree(focus);
        for (int step = 0; step < treeSize; step++) {
            position++;
            if (position >= treeSize) {
                position = 0;
            }
            int widget = tree[position];
            if (kinds[widget] != PANEL && seen[widget] && able[widget]) {
                giveFocus(widget);
                return;
            }
        }
    }

    private int positionInTree(int widget) {
        for (int i = 0; i < treeSize; i++) {
            if (tree[i] == widget) {
                return i;
            }
        }
        return NONE;
    }

    private void giveFocus(int widget) {
        if (kinds[widget] == PANEL || focus == widget) {
            return;
        }
        focus = widget;
        note(GOT_FOCUS + widget);
    }

    private void note(int what) {
        notes[noteCount & (NOTES - 1)] = what;
        noteCount++;
    }

    // Acting

    private void actInTurn(int first) {
        int actor = first;
        int actedBits = 0;
        for (int turn = 0; turn < WIDGETS && actor != NONE; turn++) {
            actedBits |= 1 << actor;
            note(ACTED + actor);
            if (kinds[actor] == BOX) {
                on[actor] = !on[actor];
            }
            int next = workEffect(actor);
            boolean mayAct = next != NONE && (actedBits >> next & 1) == 0;
            actor = mayAct ? next : NONE;
        }
    }

    /** Answers the widget that is to act in its turn, or NONE. */
    private int workEffect(int actor) {
        int target = targets[actor];
        if (!isThere(target)) {
            return NONE;
        }
        switch (effects[actor]) {
            case EFFECT_SHOW:
                visible[target] = !visible[target];
                return NONE;
            case EFFECT_ENABLE:
                enabled[target] = !enabled[target];
                return NONE;
            case EFFECT_RAISE:
                raise(target);
                return NONE;
            case EFFECT_SHIFT:
                growShift(target);
                return NONE;
            case EFFECT_FOCUS:
                giveFocus(target);
                return NONE;
            case EFFECT_ACT:
                return target;
            default:
                return NONE;
        }
    }

    private void growShift(int widget) {
        for (int i = 2 * widget; i < 2 * widget + 2; i++) {
            shifts[i] = shifts[i] >= GREATEST_SHIFT ? -GREATEST_SHIFT : shifts[i] + 1;
        }
    }
}
