public final class Treebark {
    public static final int NONE = -1;
    public static final int LOST = -2;
    public static final int SINGLE = 0, MIRROR = 1;

    private static final int TREES = 6;
    private static final int NAMES = 10;
    private static final int PLACES = 16;
    private static final int CELLS = 4;
    private static final int DISKS = 2;
    private static final int BLOCKS = 40;
    private static final int BOTH = 3;
    private static final int HIGHEST_VALUE = 999;
    private static final int HIGHEST_LIMIT = 1000;
    private static final int MOST_LOGGED = 512;

    // What a row tells of a place where it tells no value.
    private static final int HOLE = -1;
    private static final int UNTOLD = -3;

    private final Disks disks = new Disks();
    private final Tree[] trees = newTrees();
    private final Tree[] committed = newTrees();
    private final Logged[] logged = new Logged[MOST_LOGGED];
    private int manyLogged = 0;
    private Stream sent = new Stream();
    private Stream spare = new Stream();
    private int filesMade = 0;
    private int copies = 0;

    // Rows that calls use again, so that no call has to make them.
    private final Places next = new Places();
    private final int[] row = new int[PLACES];
    private final Weight ahead = new Weight();
    private final Weight behind = new Weight();

    public Treebark() {
        trees[0].take(new Root());
        committed[0].becomeLike(trees[0]);
    }

    // ---- names

    public int create(int tree, int name) throws IndexOutOfBoundsException, IllegalStateException {
        Tree where = treeAt(tree);
        checkName(name);
        checkState(!where.isSnapshot && where.root.nodeAt(name) == null);
        Node node = new Node(filesMade);
        filesMade++;
        changeableRoot(where).give(name, node);
        return node.number;
    }

    public int link(int tree, int name, int other) throws IndexOutOfBoundsException, IllegalStateException {
        Tree where = treeAt(tree);
        checkName(name);
        checkName(other);
        Node node = changeableFile(where, name);
        checkState(where.root.nodeAt(other) == null);
        Root root = changeableRoot(where);
        root.give(other, node);
        return Integer.bitCount(root.namesOf(node));
    }

    public int unlink(int tree, int name) throws IndexOutOfBoundsException, IllegalStateException {
        Tree where = treeAt(tree);
        checkName(name);
        Node node = changeableFile(where, name);
        Root root = changeableRoot(where);
        root.give(name, null);
        disks.sweep();
        return Integer.bitCount(root.namesOf(node));
    }

    public void rename(int tree, int name, int other, boolean exchanges) throws IndexOutOfBoundsException, IllegalStateException {
        Tree where = treeAt(tree);
        checkName(name);
        checkName(other);
        Node node = changeableFile(where, name);
        Node replaced = where.root.nodeAt(other);
        checkState(!exchanges || replaced != null);
        if (node != replaced) {
            Root root = changeableRoot(where);
            root.give(other, node);
            root.give(name, exchanges ? replaced : null);
            disks.sweep();
        }
    }

    public int file(int tree, int name) throws IndexOutOfBoundsException {
        Tree where = treeAt(tree);
        checkName(name);
        Node node = where.root.nodeAt(name);
        return node == null ? NONE : node.number;
    }

    // ---- places

    public int write(int tree, int name, int at, int many, int value, int step) throws IndexOutOfBoundsException, IllegalArgumentException, IllegalStateException {
        Tree where = treeAt(tree);
        checkName(name);
        checkRun(at, many, CELLS);
        checkArgument(many >= 1 && many <= CELLS);
        checkArgument(isValue(value) && step >= -HIGHEST_VALUE && step <= HIGHEST_VALUE);
        checkArgument(isValue(value + (many - 1) * step));
        Node node = changeableFile(where, name);
        clearRow();
        for (int i = 0; i < many; i++) {
            row[at + i] = value + i * step;
        }
        changeByRow(tree, node);
        Extent made = next.extents[at];
        return made == null ? 0 : made.blocks;
    }

    public int punch(int tree, int name, int at, int many) throws IndexOutOfBoundsException, IllegalArgumentException, IllegalStateException {
        Tree where = treeAt(tree);
        checkName(name);
        checkRun(at, many, PLACES);
        checkArgument(many >= 1 && many <= PLACES);
        Node node = changeableFile(where, name);
        int before = node.places.holes();
        next.putAll(node.places);
        for (int i = 0; i < many; i++) {
            next.put(at + i, null, 0);
        }
        changePlaces(where, node);
        return next.holes() - before;
    }

    public int clone(int tree, int name, int at, int many, int into, int other, int to) throws IndexOutOfBoundsException, IllegalArgumentException, IllegalStateException {
        checkBothRuns(tree, name, at, many, into, other, to);
        Tree from = treeAt(tree);
        Tree where = treeAt(into);
        Node first = fileAt(from, name);
        Node second = changeableFile(where, other);
        planClone(first, at, many, second, to);
        checkState(!isAboveLimits(into, second));
        changePlaces(where, second);
        return next.extentsOf(fileAt(from, name).places);
    }

    public boolean dedupe(int tree, int name, int at, int many, int into, int other, int to) throws IndexOutOfBoundsException, IllegalArgumentException, IllegalStateException {
        checkBothRuns(tree, name, at, many, into, other, to);
        Tree where = treeAt(into);
        Node first = fileAt(treeAt(tree), name);
        Node second = changeableFile(where, other);
        for (int i = 0; i < many; i++) {
            if (!canBeDeduped(first.places, at + i, second.places, to + i)) {
                return false;
            }
        }
        planClone(first, at, many, second, to);
        checkState(!isAboveLimits(into, second));
        changePlaces(where, second);
        return true;
    }

    public int defragment(int tree, int name) throws IndexOutOfBoundsException, IllegalStateException {
        Tree where = treeAt(tree);
        checkName(name);
        Node node = changeableFile(where, name);
        clearRow();
        for (int place = 0; place < PLACES; place++) {
            if (!node.places.isHole(place)) {
                row[place] = node.places.valueAt(place);
                checkState(row[place] != LOST);
            }
        }
        changeByRow(tree, node);
        return next.extentsOf(next);
    }

    public int read(int tree, int name, int at) throws IndexOutOfBoundsException, IllegalStateException {
        Node node = fileWithPlace(tree, name, at);
        Extent extent = node.places.extentAt(at);
        if (extent != null) {
            disks.mendOnTheWay(extent);
        }
        return node.places.valueAt(at);
    }

    public int ofFile(int tree, int name, int what) throws IndexOutOfBoundsException, IllegalArgumentException, IllegalStateException {
        Tree where = treeAt(tree);
        checkName(name);
        checkArgument(what >= 0 && what <= 2);
        Node node = fileAt(where, name);
        if (what == 0) {
            return Integer.bitCount(where.root.namesOf(node));
        }
        return what == 1 ? node.places.extentsOf(node.places) : node.places.holes();
    }

    public int references(int tree, int name, int at) throws IndexOutOfBoundsException, IllegalStateException {
        Extent extent = fileWithPlace(tree, name, at).places.extentAt(at);
        int count = 0;
        for (int i = 0; i < TREES; i++) {
            if (extent != null && trees[i].root != null) {
                count += trees[i].root.placesOf(extent);
            }
        }
        return count;
    }

    // ---- trees

    public int branch(int tree, boolean snapshot) throws IndexOutOfBoundsException, IllegalStateException {
        Tree where = treeAt(tree);
        int number = freeTree();
        checkState(number != NONE);
        trees[number].becomeLike(where);
        trees[number].isSnapshot = snapshot;
        return number;
    }

    public int drop(int tree) throws IndexOutOfBoundsException, IllegalStateException {
        Tree where = treeAt(tree);
        checkState(tree != 0);
        where.take(null);
        disks.sweep();
        return treesThere();
    }

    public void limits(int tree, int refers, int own) throws IndexOutOfBoundsException, IllegalArgumentException {
        Tree where = treeAt(tree);
        checkArgument(refers >= 0 && refers <= HIGHEST_LIMIT);
        checkArgument(own >= 0 && own <= HIGHEST_LIMIT);
        where.refersLimit = refers;
        where.ownLimit = own;
    }

    public int ofTree(int tree, int what) throws IndexOutOfBoundsException, IllegalArgumentException {
        Tree where = treeAt(tree);
        checkArgument(what >= 0 && what <= 3);
        if (what == 0) {
            return where.root.names();
        }
        if (what == 3) {
            return where.isSnapshot ? 1 : 0;
        }
        weigh(tree, null, ahead);
        return what == 1 ? ahead.refers : ahead.own;
    }

    public boolean areAlike(int tree, int other) throws IndexOutOfBoundsException {
        Root first = treeAt(tree).root;
        Root second = treeAt(other).root;
        if (first.names() != second.names()) {
            return false;
        }
        for (int name = 0; name < NAMES; name++) {
            Node one = first.nodeAt(name);
            Node two = second.nodeAt(name);
            if (one != null && two != null && !one.places.readsLike(two.places)) {
                return false;
            }
        }
        return true;
    }

    // ---- commits, crashes, sending

    public int commit() {
        keepAllTrees();
        return treesThere();
    }

    public int log(int tree, int name) throws IndexOutOfBoundsException, IllegalStateException {
        Tree where = treeAt(tree);
        checkName(name);
        Node node = fileAt(where, name);
        forgetLogged(tree, node.number);
        if (manyLogged < MOST_LOGGED) {
            Logged entry = new Logged(tree, node.number, where.root.namesOf(node));
            entry.places.putAll(node.places);
            entry.places.countUses(1);
            logged[manyLogged] = entry;
            manyLogged++;
        }
        disks.sweep();
        return manyLogged;
    }

    public int crash() {
        for (int i = 0; i < TREES; i++) {
            trees[i].becomeLike(committed[i]);
        }
        int back = 0;
        for (int i = 0; i < manyLogged; i++) {
            if (bringBack(logged[i])) {
                back++;
            }
        }
        keepAllTrees();
        return back;
    }

    public int send(int from, int to) throws IndexOutOfBoundsException, IllegalStateException {
        Tree first = treeAt(from);
        Tree second = treeAt(to);
        checkState(first.isSnapshot && second.isSnapshot);
        // Told beside what was sent before, which stays if this cannot be sent.
        int told = spare.tell(first.root, second.root);
        checkState(told != LOST);
        Stream old = sent;
        sent = spare;
        spare = old;
        return told;
    }

    public int receive(int onto) throws IndexOutOfBoundsException, IllegalStateException {
        Tree where = treeAt(onto);
        int number = freeTree();
        checkState(sent.isTold && where.isSnapshot && number != NONE);
        Node[] nodes = new Node[NAMES];
        int filesBefore = filesMade;
        int copiesBefore = copies;
        if (!receiveFiles(where.root, nodes)) {
            filesMade = filesBefore;
            copies = copiesBefore;
            disks.sweep();
            throw new IllegalStateException();
        }
        Root root = new Root();
        copies++;
        for (int name = 0; name < NAMES; name++) {
            int index = sent.fileOf[name];
            if (index >= 0 && index < NAMES) {
                root.give(name, nodes[index]);
            }
        }
        trees[number].becomeSnapshot(root);
        return number;
    }

    // ---- disks

    public int profile(int profile) throws IllegalArgumentException {
        checkArgument(profile == SINGLE || profile == MIRROR);
        int before = disks.madeAs;
        disks.madeAs = profile;
        return before;
    }

    public int balance(int profile) throws IllegalArgumentException {
        checkArgument(profile == SINGLE || profile == MIRROR);
        return disks.layOut(profile);
    }

    public boolean damage(int disk, int tree, int name, int at) throws IndexOutOfBoundsException, IllegalStateException {
        checkDisk(disk);
        Extent extent = fileWithPlace(tree, name, at).places.extentAt(at);
        if (extent == null || !extent.isOn(disk)) {
            return false;
        }
        extent.bad |= 1 << disk;
        return true;
    }

    public int scrub() {
        return disks.mendAll();
    }

    public int free(int disk) throws IndexOutOfBoundsException {
        checkDisk(disk);
        return disks.room[disk];
    }

    public int freeAnew(int disk) throws IndexOutOfBoundsException {
        checkDisk(disk);
        int walk = disks.nextWalk();
        int taken = 0;
        for (int i = 0; i < TREES; i++) {
            taken += blocksOfTree(trees[i], disk, walk) + blocksOfTree(committed[i], disk, walk);
        }
        for (int i = 0; i < manyLogged; i++) {
            Logged entry = logged[i];
            taken += entry == null ? 0 : entry.places.unseenBlocks(disk, walk);
        }
        return BLOCKS - taken;
    }

    public int copied() {
        return copies;
    }

    public int mended() {
        return disks.mends;
    }

    // ---- arguments

    private Tree treeAt(int tree) {
        if (tree < 0 || tree >= TREES || trees[tree].root == null) {
            throw new IndexOutOfBoundsException();
        }
        return trees[tree];
    }

    private static void checkDisk(int disk) {
        if (disk < 0 || disk >= DISKS) {
            throw new IndexOutOfBoundsException();
        }
    }

    private static void checkName(int name) {
        if (name < 0 || name >= NAMES) {
            throw new IndexOutOfBoundsException();
        }
    }

    private static void checkPlace(int place) {
        if (place < 0 || place >= PLACES) {
            throw new IndexOutOfBoundsException();
        }
    }

    /** A number of places out of its own range is no matter of places: that one is left to checkArgument(). */
    private static void checkRun(int at, int many, int most) {
        checkPlace(at);
        if (many >= 1 && many <= most && at + many > PLACES) {
            throw new IndexOutOfBoundsException();
        }
    }

    private void checkBothRuns(int tree, int name, int at, int many, int into, int other, int to) {
        treeAt(tree);
        checkName(name);
        checkRun(at, many, PLACES);
        treeAt(into);
        checkName(other);
        checkRun(to, many, PLACES);
        checkArgument(many >= 1 && many <= PLACES);
    }

    private static void checkArgument(boolean isGood) {
        if (!isGood) {
            throw new IllegalArgumentException();
        }
    }

    private static void checkState(boolean isGood) {
        if (!isGood) {
            throw new IllegalStateException();
        }
    }

    private static boolean isValue(int value) {
        return value >= 0 && value <= HIGHEST_VALUE;
    }

    private static Node fileAt(Tree tree, int name) {
        Node node = tree.root.nodeAt(name);
        if (node == null) {
            throw new IllegalStateException();
        }
        return node;
    }

    private static Node changeableFile(Tree tree, int name) {
        checkState(!tree.isSnapshot);
        return fileAt(tree, name);
    }

    private Node fileWithPlace(int tree, int name, int at) {
        Tree where = treeAt(tree);
        checkName(name);
        checkPlace(at);
        return fileAt(where, name);
    }

    // ---- copies of roots and nodes

    private Root changeableRoot(Tree tree) {
        if (tree.root.trees > 1) {
            tree.root.trees--;
            tree.root = tree.root.twin();
            tree.root.trees++;
            copies++;
        }
        return tree.root;
    }

    private Node changeableNode(Tree tree, Node node) {
        if (tree.root.trees == 1 && node.roots == 1) {
            return node;
        }
        Node twin = node.twin();
        changeableRoot(tree).replace(node, twin);
        copies++;
        return twin;
    }

    // ---- places that change

    private void clearRow() {
        for (int place = 0; place < PLACES; place++) {
            row[place] = UNTOLD;
        }
    }

    private void planClone(Node first, int at, int many, Node second, int to) {
        next.putAll(second.places);
        for (int i = 0; i < many; i++) {
            next.put(to + i, first.places.extentAt(at + i), first.places.cellAt(at + i));
        }
    }

    private static boolean canBeDeduped(Places first, int at, Places second, int to) {
        int value = first.valueAt(at);
        return !first.isHole(at) && !second.isHole(to) && value != LOST && value == second.valueAt(to);
    }

    private void changeByRow(int tree, Node node) {
        next.putAll(node.places);
        boolean isAllowed = disks.putRow(row, next) && !isAboveLimits(tree, node);
        if (isAllowed) {
            changeableNode(treeAt(tree), node).become(next);
        }
        // If it is not allowed, this gives back what was made in vain.
        disks.sweep();
        checkState(isAllowed);
    }

    private void changePlaces(Tree tree, Node node) {
        changeableNode(tree, node).become(next);
        disks.sweep();
    }

    // ---- limits

    private boolean isAboveLimits(int tree, Node node) {
        Tree where = treeAt(tree);
        weigh(tree, null, ahead);
        weigh(tree, node, behind);
        return behind.refers > where.refersLimit && behind.refers > ahead.refers
            || behind.own > where.ownLimit && behind.own > ahead.own;
    }

    /** Weighs a tree, with the next places in place of those of one node, if one is given. */
    private void weigh(int tree, Node changing, Weight weight) {
        int walk = disks.nextWalk();
        for (int i = 0; i < TREES; i++) {
            if (i != tree && trees[i].root != null) {
                trees[i].root.markElsewhere(walk);
            }
        }
        weight.clear();
        Root root = treeAt(tree).root;
        for (int name = 0; name < NAMES; name++) {
            Node node = root.nodeAt(name);
            if (node != null) {
                weight.add(node == changing ? next : node.places, walk);
            }
        }
    }

    // ---- all trees

    private static Tree[] newTrees() {
        Tree[] made = new Tree[TREES];
        for (int i = 0; i < TREES; i++) {
            made[i] = new Tree();
        }
        return made;
    }

    private int freeTree() {
        for (int i = 0; i < TREES; i++) {
            if (trees[i].root == null) {
                return i;
            }
        }
        return NONE;
    }

    private int treesThere() {
        int count = 0;
        for (int i = 0; i < TREES; i++) {
            if (trees[i].root != null) {
                count++;
            }
        }
        return count;
    }

    private static int blocksOfTree(Tree tree, int disk, int walk) {
        int taken = 0;
        for (int name = 0; name < NAMES; name++) {
            Node node = tree.root == null ? null : tree.root.nodeAt(name);
            taken += node == null ? 0 : node.places.unseenBlocks(disk, walk);
        }
        return taken;
    }

    // ---- the log

    private void keepAllTrees() {
        for (int i = 0; i < TREES; i++) {
            committed[i].becomeLike(trees[i]);
        }
        for (int i = 0; i < manyLogged; i++) {
            if (logged[i] != null) {
                logged[i].places.countUses(-1);
                logged[i] = null;
            }
        }
        manyLogged = 0;
        disks.sweep();
    }

    private void forgetLogged(int tree, int number) {
        int kept = 0;
        for (int i = 0; i < manyLogged; i++) {
            Logged entry = logged[i];
            logged[i] = null;
            if (entry != null && entry.tree == tree && entry.number == number) {
                entry.places.countUses(-1);
            } else {
                logged[kept] = entry;
                kept++;
            }
        }
        manyLogged = kept;
    }

    private boolean bringBack(Logged entry) {
        Tree tree = entry == null ? null : trees[entry.tree];
        if (tree == null || tree.root == null || tree.isSnapshot) {
            return false;
        }
        Root root = changeableRoot(tree);
        Node node = root.withNumber(entry.number);
        node = node == null ? new Node(entry.number) : changeableNode(tree, node);
        root.giveJust(entry.names, node);
        node.become(entry.places);
        return true;
    }

    // ---- receiving

    /** Makes the nodes that the new root is to have; false if a disk is full. */
    private boolean receiveFiles(Root onto, Node[] nodes) {
        for (int i = 0; i < sent.many && i < nodes.length; i++) {
            Node node = sent.isBaseOfEarlier(onto, i) ? null : onto.nodeAt(sent.lowest[i]);
            if (node == null) {
                node = new Node(filesMade);
                filesMade++;
            } else if (sent.tellsPlacesOf(i)) {
                node = node.twin();
                copies++;
            }
            if (sent.tellsPlacesOf(i) && !disks.putRow(sent.rows[i], node.places)) {
                return false;
            }
            nodes[i] = node;
        }
        return true;
    }

    private static final class Extent {
        final int[] cells = new int[CELLS];
        int blocks;
        int copies;
        int bad;
        int uses;
        int seenHere;
        int seenElsewhere;

        void fill(int[] values, int from, int many) {
            for (int i = 0; i < CELLS; i++) {
                int place = from + i;
                cells[i] = i < many && place >= 0 && place < values.length ? values[place] : 0;
            }
            bad = 0;
            uses = 0;
        }

        boolean isOn(int disk) {
            return (copies & (1 << disk)) != 0;
        }

        boolean isReadable() {
            return (copies & ~bad) != 0;
        }

        int valueAt(int cell) {
            return isReadable() && cell >= 0 && cell < CELLS ? cells[cell] : LOST;
        }

        int weight() {
            return blocks * Integer.bitCount(copies);
        }
    }

    /** The places of a file; those without an extent are holes. */
    private static final class Places {
        final Extent[] extents = new Extent[PLACES];
        final int[] cells = new int[PLACES];

        void put(int place, Extent extent, int cell) {
            if (place >= 0 && place < PLACES) {
                extents[place] = extent;
                cells[place] = cell;
            }
        }

        void putAll(Places other) {
            for (int place = 0; place < PLACES; place++) {
                extents[place] = other.extents[place];
                cells[place] = other.cells[place];
            }
        }

        Extent extentAt(int place) {
            return place >= 0 && place < PLACES ? extents[place] : null;
        }

        int cellAt(int place) {
            return place >= 0 && place < PLACES ? cells[place] : 0;
        }

        boolean isHole(int place) {
            return extentAt(place) == null;
        }

        int valueAt(int place) {
            Extent extent = extentAt(place);
            return extent == null ? 0 : extent.valueAt(cellAt(place));
        }

        boolean isTheVerySame(int place, Places other) {
            Extent extent = extentAt(place);
            return extent == other.extentAt(place) && (extent == null || cellAt(place) == other.cellAt(place));
        }

        boolean readsLike(Places other) {
            for (int place = 0; place < PLACES; place++) {
                int value = valueAt(place);
                if (value == LOST || value != other.valueAt(place)) {
                    return false;
                }
            }
            return true;
        }

        int holes() {
            return placesOf(null);
        }

        int placesOf(Extent extent) {
            int count = 0;
            for (int place = 0; place < PLACES; place++) {
                if (extents[place] == extent) {
                    count++;
                }
            }
            return count;
        }

        /** How many extents these places have that the others have, too. */
        int extentsOf(Places other) {
            int count = 0;
            for (int place = 0; place < PLACES; place++) {
                if (isFirstOfExtent(place) && other.placesOf(extents[place]) > 0) {
                    count++;
                }
            }
            return count;
        }

        private boolean isFirstOfExtent(int place) {
            for (int i = 0; i < place; i++) {
                if (extents[i] == extents[place]) {
                    return false;
                }
            }
            return extents[place] != null;
        }

        void countUses(int more) {
            for (int place = 0; place < PLACES; place++) {
                if (extents[place] != null) {
                    extents[place].uses += more;
                }
            }
        }

        void markElsewhere(int walk) {
            for (int place = 0; place < PLACES; place++) {
                if (extents[place] != null) {
                    extents[place].seenElsewhere = walk;
                }
            }
        }

        int unseenBlocks(int disk, int walk) {
            int taken = 0;
            for (int place = 0; place < PLACES; place++) {
                Extent extent = extents[place];
                if (extent != null && extent.seenHere != walk) {
                    extent.seenHere = walk;
                    taken += extent.isOn(disk) ? extent.blocks : 0;
                }
            }
            return taken;
        }
    }

    /** A file; its places use their extents as long as some root has it. */
    private static final class Node {
        final int number;
        final Places places = new Places();
        int roots = 0;

        Node(int number) {
            this.number = number;
        }

        Node twin() {
            Node twin = new Node(number);
            twin.places.putAll(places);
            return twin;
        }

        void become(Places other) {
            places.countUses(-1);
            places.putAll(other);
            places.countUses(1);
        }

        void gainRoot() {
            roots++;
            if (roots == 1) {
                places.countUses(1);
            }
        }

        void loseRoot() {
            roots--;
            if (roots == 0) {
                places.countUses(-1);
            }
        }
    }

    /** The names of a tree; it has its nodes as long as some tree, as it is or was committed, has it. */
    private static final class Root {
        final Node[] nodes = new Node[NAMES];
        int trees = 0;

        Node nodeAt(int name) {
            return name >= 0 && name < NAMES ? nodes[name] : null;
        }

        int names() {
            return ((1 << NAMES) - 1) & ~namesOf(null);
        }

        int namesOf(Node node) {
            int names = 0;
            for (int name = 0; name < NAMES; name++) {
                if (nodes[name] == node) {
                    names |= 1 << name;
                }
            }
            return names;
        }

        int lowestOf(Node node) {
            for (int name = 0; name < NAMES; name++) {
                if (nodes[name] == node) {
                    return name;
                }
            }
            return NONE;
        }

        /** Whether a name is of a file and its lowest one, so that a walk meets each file once. */
        boolean isLowest(int name) {
            Node node = nodeAt(name);
            return node != null && lowestOf(node) == name;
        }

        Node withNumber(int number) {
            for (int name = 0; name < NAMES; name++) {
                if (nodes[name] != null && nodes[name].number == number) {
                    return nodes[name];
                }
            }
            return null;
        }

        int placesOf(Extent extent) {
            int count = 0;
            for (int name = 0; name < NAMES; name++) {
                if (nodes[name] != null && isLowest(name)) {
                    count += nodes[name].places.placesOf(extent);
                }
            }
            return count;
        }

        void markElsewhere(int walk) {
            for (int name = 0; name < NAMES; name++) {
                if (nodes[name] != null) {
                    nodes[name].places.markElsewhere(walk);
                }
            }
        }

        void give(int name, Node node) {
            Node old = nodeAt(name);
            if (old == node || name < 0 || name >= NAMES) {
                return;
            }
            nodes[name] = node;
            if (node != null && namesOf(node) == (1 << name)) {
                node.gainRoot();
            }
            if (old != null && namesOf(old) == 0) {
                old.loseRoot();
            }
        }

        void giveJust(int names, Node node) {
            for (int name = 0; name < NAMES; name++) {
                if ((names & (1 << name)) != 0) {
                    give(name, node);
                }
            }
            for (int name = 0; name < NAMES; name++) {
                if ((names & (1 << name)) == 0 && nodes[name] == node) {
                    give(name, null);
                }
            }
        }

        void replace(Node old, Node node) {
            for (int name = 0; name < NAMES; name++) {
                if (nodes[name] == old) {
                    nodes[name] = node;
                }
            }
            node.gainRoot();
            old.loseRoot();
        }

        Root twin() {
            Root twin = new Root();
            for (int name = 0; name < NAMES; name++) {
                twin.nodes[name] = nodes[name];
                if (nodes[name] != null && isLowest(name)) {
                    nodes[name].gainRoot();
                }
            }
            return twin;
        }

        void loseTree() {
            trees--;
            for (int name = 0; name < NAMES; name++) {
                if (trees == 0 && nodes[name] != null && isLowest(name)) {
                    nodes[name].loseRoot();
                }
            }
        }
    }

    /** A tree, as it is or was committed; without a root it is not there. */
    private static final class Tree {
        Root root = null;
        boolean isSnapshot = false;
        int refersLimit = HIGHEST_LIMIT;
        int ownLimit = HIGHEST_LIMIT;

        void take(Root other) {
            if (other != null) {
                other.trees++;
            }
            if (root != null) {
                root.loseTree();
            }
            root = other;
        }

        void becomeLike(Tree other) {
            take(other.root);
            isSnapshot = other.isSnapshot;
            refersLimit = other.refersLimit;
            ownLimit = other.ownLimit;
        }

        void becomeSnapshot(Root other) {
            take(other);
            isSnapshot = true;
            refersLimit = HIGHEST_LIMIT;
            ownLimit = HIGHEST_LIMIT;
        }
    }

    /** To how many blocks a tree refers, and how many are its own. */
    private static final class Weight {
        int refers;
        int own;

        void clear() {
            refers = 0;
            own = 0;
        }

        void add(Places places, int walk) {
            for (int place = 0; place < PLACES; place++) {
                Extent extent = places.extentAt(place);
                if (extent != null && extent.seenHere != walk) {
                    extent.seenHere = walk;
                    refers += extent.weight();
                    own += extent.seenElsewhere == walk ? 0 : extent.weight();
                }
            }
        }
    }

    private static final class Logged {
        final int tree;
        final int number;
        final int names;
        final Places places = new Places();

        Logged(int tree, int number, int names) {
            this.tree = tree;
            this.number = number;
            this.names = names;
        }
    }

    /** What was sent: of each name its file, and of each file, by rising numbers, its lowest name and its places. */
    private static final class Stream {
        final int[] fileOf = new int[NAMES];
        final int[] lowest = new int[NAMES];
        final int[][] rows = new int[NAMES][PLACES];
        int many = 0;
        boolean isTold = false;

        /** How many places it tells; LOST if one of them is. */
        int tell(Root first, Root second) {
            many = 0;
            isTold = true;
            for (int name = 0; name < NAMES; name++) {
                fileOf[name] = NONE;
            }
            int told = 0;
            int last = NONE;
            for (int i = 0; i < NAMES; i++) {
                Node node = nextByNumber(second, last);
                if (node != null) {
                    last = node.number;
                    int places = tellFile(first, second, node);
                    if (places == LOST) {
                        return LOST;
                    }
                    told += places;
                }
            }
            return told;
        }

        private static Node nextByNumber(Root root, int last) {
            Node found = null;
            for (int name = 0; name < NAMES; name++) {
                Node node = root.nodeAt(name);
                if (node != null && node.number > last && (found == null || node.number < found.number)) {
                    found = node;
                }
            }
            return found;
        }

        private int tellFile(Root first, Root second, Node node) {
            int index = many;
            if (index >= NAMES) {
                return 0;
            }
            many++;
            for (int name = 0; name < NAMES; name++) {
                if (second.nodeAt(name) == node) {
                    fileOf[name] = index;
                }
            }
            Node old = first.withNumber(node.number);
            lowest[index] = old == null ? NONE : first.lowestOf(old);
            return tellPlaces(old, node, rows[index]);
        }

        private static int tellPlaces(Node old, Node node, int[] row) {
            int told = 0;
            for (int place = 0; place < PLACES && place < row.length; place++) {
                boolean isHole = node.places.isHole(place);
                boolean isKnown = old == null ? isHole : node.places.isTheVerySame(place, old.places);
                row[place] = isKnown ? UNTOLD : isHole ? HOLE : node.places.valueAt(place);
                if (row[place] == LOST) {
                    return LOST;
                }
                told += isKnown ? 0 : 1;
            }
            return told;
        }

        boolean tellsPlacesOf(int index) {
            for (int place = 0; place < PLACES; place++) {
                if (index >= 0 && index < NAMES && rows[index][place] != UNTOLD) {
                    return true;
                }
            }
            return false;
        }

        /** Whether a file ahead of one has become the file of its lowest name already. */
        boolean isBaseOfEarlier(Root onto, int index) {
            for (int i = 0; i < index && index < NAMES; i++) {
                if (onto.nodeAt(lowest[i]) == onto.nodeAt(lowest[index])) {
                    return true;
                }
            }
            return false;
        }
    }

    /** The room on both disks, and the extents in use: the first ones, in the order in which they were made. */
    private static final class Disks {
        final Extent[] extents = new Extent[DISKS * BLOCKS];
        final int[] room = new int[DISKS];
        int many = 0;
        int madeAs = SINGLE;
        int mends = 0;
        int walks = 0;

        Disks() {
            for (int i = 0; i < extents.length; i++) {
                extents[i] = new Extent();
            }
            for (int disk = 0; disk < DISKS; disk++) {
                room[disk] = BLOCKS;
            }
        }

        int nextWalk() {
            walks++;
            return walks;
        }

        /** Puts what a row tells into places, in new extents for its values; false if a disk is full. */
        boolean putRow(int[] row, Places places) {
            Extent extent = null;
            int cell = 0;
            for (int place = 0; place < PLACES && place < row.length; place++) {
                if (row[place] < 0) {
                    extent = null;
                    if (row[place] == HOLE) {
                        places.put(place, null, 0);
                    }
                    continue;
                }
                if (extent == null || cell >= CELLS) {
                    extent = make(row, place);
                    cell = 0;
                }
                if (extent == null) {
                    return false;
                }
                places.put(place, extent, cell);
                cell++;
            }
            return true;
        }

        /** Makes an extent of the values of a row that follow one another; null if a disk is full. */
        private Extent make(int[] row, int from) {
            int length = 0;
            boolean areAllAlike = true;
            for (int place = from; place < row.length && length < CELLS && row[place] >= 0; place++) {
                areAllAlike = areAllAlike && row[place] == row[from];
                length++;
            }
            int blocks = areAllAlike ? 1 : length;
            int onto = disksFor(blocks);
            if (onto == 0 || many >= extents.length) {
                return null;
            }
            Extent made = extents[many];
            many++;
            made.fill(row, from, length);
            made.blocks = blocks;
            made.copies = onto;
            giveRoom(onto, -blocks);
            return made;
        }

        private int disksFor(int blocks) {
            if (madeAs == MIRROR) {
                return room[0] >= blocks && room[1] >= blocks ? BOTH : 0;
            }
            int disk = room[1] > room[0] ? 1 : 0;
            return room[disk] >= blocks ? 1 << disk : 0;
        }

        private void giveRoom(int of, int blocks) {
            for (int disk = 0; disk < DISKS; disk++) {
                if ((of & (1 << disk)) != 0) {
                    room[disk] += blocks;
                }
            }
        }

        /** Frees the extents that are in use no more; the others stay in their order. */
        void sweep() {
            int kept = 0;
            for (int i = 0; i < many; i++) {
                Extent extent = extents[i];
                if (extent.uses > 0) {
                    extents[i] = extents[kept];
                    extents[kept] = extent;
                    kept++;
                } else {
                    giveRoom(extent.copies, extent.blocks);
                }
            }
            many = kept;
        }

        void mendOnTheWay(Extent extent) {
            if (extent.isReadable() && (extent.bad & 1) != 0) {
                extent.bad &= ~1;
                mends++;
            }
        }

        int mendAll() {
            int mendsBefore = mends;
            for (int i = 0; i < many; i++) {
                Extent extent = extents[i];
                if (extent.isReadable()) {
                    mends += Integer.bitCount(extent.bad);
                    extent.bad = 0;
                }
            }
            return mends - mendsBefore;
        }

        /** How many extents do not lie as a profile tells, after each was brought to lie so where it could. */
        int layOut(int as) {
            int amiss = 0;
            for (int i = 0; i < many; i++) {
                Extent extent = extents[i];
                if (as == SINGLE && extent.copies == BOTH) {
                    loseCopy(extent);
                } else if (as == MIRROR && extent.copies != BOTH) {
                    gainCopy(extent);
                }
                if ((extent.copies == BOTH) != (as == MIRROR)) {
                    amiss++;
                }
            }
            return amiss;
        }

        private void loseCopy(Extent extent) {
            int lost = extent.bad == 1 ? 1 : 2;
            giveRoom(lost, extent.blocks);
            extent.copies &= ~lost;
            extent.bad &= ~lost;
        }

        private void gainCopy(Extent extent) {
            int gained = BOTH & ~extent.copies;
            int disk = gained == 1 ? 0 : 1;
            if (extent.isReadable() && room[disk] >= extent.blocks) {
                giveRoom(gained, -extent.blocks);
                extent.copies = BOTH;
            }
        }
    }
}
