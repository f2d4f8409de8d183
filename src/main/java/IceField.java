/** A field of ice from which blocks are sawn. What every call promises stands in DOC.md. */
public final class IceField {
    public static final int NONE = -1;

    private static final int MIN_SIDE = 2;
    private static final int MAX_SIDE = 7;
    private static final int MAX_CELLS = 49;
    private static final int MAX_THICKNESS = 50;
    private static final int MAX_MELT = 9;
    private static final int MAX_DAYS = 50;
    private static final int LAST_FORESEEN_DAY = 60;
    private static final int MAX_KEPT = 40;
    private static final int MAX_SAVED = 4;
    private static final int MAX_TEXT = 60;
    private static final int MAX_BYTE = 127;
    private static final int FIRST_ERROR = -10;

    private static final int SIDES = 4;
    private static final int RIGHT = 0;
    private static final int BELOW = 1;
    private static final int ABOVE = 2;
    private static final int LEFT = 3;

    private static final int CELL_FACTS = 7;
    private static final int CELL_BLOCK = 5;
    private static final int BLOCK_FACTS = 5;
    private static final int BLOCK_HELD = 3;
    private static final int BLOCK_WAY = 4;
    private static final int FIELD_FACTS = 14;
    private static final int ALL_BLOCKS = 3;
    private static final int STRANDED_BLOCKS = 5;
    private static final int KEPT_FACTS = 3;

    private final Ice ice = new Ice();
    private final Ice trial = new Ice();
    private final Ice[] saved = new Ice[MAX_SAVED];
    private int nextSaved = 0;
    private int savedCount = 0;
    private final Text text = new Text();
    private final Blocks blocks = new Blocks();
    private final Way way = new Way();
    private final Numbers wayLengths = new Numbers(MAX_CELLS);

    public IceField() {
        for (int i = 0; i < saved.length; i++) {
            saved[i] = new Ice();
        }
        ice.melt = 1;
        ice.beginAnew(4, 4);
        ice.addEverywhere(10);
    }

    // ---- field

    public int make(int width, int height, int thickness) throws IllegalArgumentException {
        if (isOutside(width, MIN_SIDE, MAX_SIDE) || isOutside(height, MIN_SIDE, MAX_SIDE)
                || isOutside(thickness, 0, MAX_THICKNESS)) {
            throw new IllegalArgumentException("an argument is out of range");
        }
        saveState();
        ice.beginAnew(width, height);
        ice.addEverywhere(thickness);
        return ice.laid;
    }

    public int lay(int cell, int more)
            throws IndexOutOfBoundsException, IllegalArgumentException, IllegalStateException {
        checkCell(cell);
        if (isOutside(more, 1, MAX_THICKNESS)) {
            throw new IllegalArgumentException("more is out of range");
        }
        if (ice.thickness.at(cell) + more > MAX_THICKNESS) {
            throw new IllegalStateException("the thickness would be more than 50");
        }
        saveState();
        ice.add(cell, more);
        return ice.thickness.at(cell);
    }

    public int saw(int cell, int side)
            throws IndexOutOfBoundsException, IllegalArgumentException, IllegalStateException {
        checkCell(cell);
        if (isOutside(side, 0, SIDES - 1)) {
            throw new IllegalArgumentException("side is out of range");
        }
        if (!ice.canCut(cell, side)) {
            throw new IllegalStateException("there is nothing to saw on this side");
        }
        saveState();
        return ice.cutSide(cell, side);
    }

    public int sawAround(int cell, int width, int height)
            throws IndexOutOfBoundsException, IllegalArgumentException {
        checkRectangle(cell, width, height);
        saveState();
        return ice.cutRectangle(cell, width, height);
    }

    public int takeOut(int cell) throws IndexOutOfBoundsException, IllegalStateException {
        checkCell(cell);
        blocks.find(ice);
        int number = blocks.numberAt(cell);
        if (!blocks.isLoose(number) || way.search(ice, blocks, number) == NONE) {
            throw new IllegalStateException("there is no block here that can float out");
        }
        saveState();
        return ice.removeBlock(blocks, number);
    }

    public int takeAll() {
        saveState();
        return removeFloating(ice);
    }

    public int setMelt(int melt) throws IllegalArgumentException {
        if (isOutside(melt, 0, MAX_MELT)) {
            throw new IllegalArgumentException("melt is out of range");
        }
        saveState();
        int previous = ice.melt;
        ice.melt = melt;
        return previous;
    }

    public int pass(int days) throws IllegalArgumentException {
        if (isOutside(days, 1, MAX_DAYS)) {
            throw new IllegalArgumentException("days is out of range");
        }
        saveState();
        int before = ice.melted;
        for (int day = 0; day < days; day++) {
            ice.meltOneDay();
        }
        return ice.melted - before;
    }

    public int cell(int cell, int what) throws IndexOutOfBoundsException, IllegalArgumentException {
        checkCell(cell);
        if (isOutside(what, 0, CELL_FACTS - 1)) {
            throw new IllegalArgumentException("what is out of range");
        }
        if (what == CELL_BLOCK) {
            blocks.find(ice);
        }
        return cellFact(cell, what);
    }

    public int block(int cell, int what) throws IndexOutOfBoundsException, IllegalArgumentException {
        checkCell(cell);
        if (isOutside(what, 0, BLOCK_FACTS - 1)) {
            throw new IllegalArgumentException("what is out of range");
        }
        blocks.find(ice);
        if (what == BLOCK_WAY) {
            findWayOf(blocks.numberAt(cell));
        }
        return blockFact(cell, what);
    }

    public int move(int cell, int index) throws IndexOutOfBoundsException {
        checkCell(cell);
        if (index < 0) {
            throw new IndexOutOfBoundsException("index is negative");
        }
        blocks.find(ice);
        int number = blocks.numberAt(cell);
        if (!blocks.isLoose(number)) {
            return NONE;
        }
        // A block without a way has the length NONE, which no index is below.
        return index < way.search(ice, blocks, number) ? way.moves.at(index) : NONE;
    }

    public int value(int what) throws IllegalArgumentException {
        if (isOutside(what, 0, FIELD_FACTS - 1)) {
            throw new IllegalArgumentException("what is out of range");
        }
        // Finding blocks and ways is dear, and no other value needs them.
        if (!isOutside(what, ALL_BLOCKS, STRANDED_BLOCKS)) {
            findBlocksAndWays();
        }
        return fieldFact(what);
    }

    public int taken(int index, int what) throws IndexOutOfBoundsException, IllegalArgumentException {
        if (isOutside(index, 0, ice.keptCount() - 1)) {
            throw new IndexOutOfBoundsException("not so many are kept");
        }
        if (isOutside(what, 0, KEPT_FACTS - 1)) {
            throw new IllegalArgumentException("what is out of range");
        }
        return ice.keptFact(index, what);
    }

    // ---- what if

    public int cutsAround(int cell, int width, int height)
            throws IndexOutOfBoundsException, IllegalArgumentException {
        checkRectangle(cell, width, height);
        trial.copyFrom(ice);
        return trial.cutRectangle(cell, width, height);
    }

    public int takable() {
        trial.copyFrom(ice);
        return removeFloating(trial);
    }

    public int leftStranded() {
        trial.copyFrom(ice);
        removeFloating(trial);
        return blocks.countLoose();
    }

    public int daysWhole(int cell) throws IndexOutOfBoundsException {
        checkCell(cell);
        blocks.find(ice);
        int number = blocks.numberAt(cell);
        if (!blocks.isLoose(number)) {
            return NONE;
        }
        trial.copyFrom(ice);
        for (int day = 1; day <= LAST_FORESEEN_DAY; day++) {
            trial.meltOneDay();
            if (hasWaterIn(trial, number)) {
                return day;
            }
        }
        return NONE;
    }

    public int daysToWater() {
        trial.copyFrom(ice);
        for (int day = 0; day <= LAST_FORESEEN_DAY; day++) {
            if (trial.iceCells() == 0) {
                return day;
            }
            trial.meltOneDay();
        }
        return NONE;
    }

    public int barredBy() {
        findBlocksAndWays();
        int number = lowestStranded();
        if (number == NONE) {
            return NONE;
        }
        trial.copyFrom(ice);
        for (int cell = 0; cell < ice.cellCount(); cell++) {
            if (ice.isIce(cell) && blocks.numberAt(cell) != number && freesWay(cell, number)) {
                return cell;
            }
        }
        return NONE;
    }

    public double harvest() {
        return ice.laid == 0 ? 0.0 : (double) ice.takenVolume / (double) ice.laid;
    }

    // ---- text

    public int append(int value) throws IllegalArgumentException, IllegalStateException {
        if (isOutside(value, 0, MAX_BYTE)) {
            throw new IllegalArgumentException("value is out of range");
        }
        if (text.length >= MAX_TEXT) {
            throw new IllegalStateException("the text is full");
        }
        text.add(value);
        return text.length;
    }

    public int clearText() {
        int previous = text.length;
        text.length = 0;
        return previous;
    }

    public int parse() {
        int errorPosition = text.read();
        if (errorPosition != NONE) {
            return FIRST_ERROR - errorPosition;
        }
        saveState();
        ice.beginAnew(text.width, text.height);
        for (int cell = 0; cell < ice.cellCount(); cell++) {
            ice.add(cell, text.digitAt(ice.rowOf(cell), ice.columnOf(cell)));
        }
        return ice.laid;
    }

    // ---- state

    public int undo() throws IllegalStateException {
        if (savedCount <= 0) {
            throw new IllegalStateException("there is no saved state");
        }
        nextSaved = (nextSaved + MAX_SAVED - 1) % MAX_SAVED;
        savedCount--;
        Ice last = savedAt(nextSaved);
        if (last != null) {
            ice.copyFrom(last);
        }
        return savedCount;
    }

    public long digest() {
        long hash = 31 * 3557L + text.length;
        findBlocksAndWays();
        for (int what = 0; what < FIELD_FACTS; what++) {
            hash = 31 * hash + fieldFact(what);
        }
        for (int cell = 0; cell < ice.cellCount(); cell++) {
            for (int what = 0; what < CELL_FACTS; what++) {
                hash = 31 * hash + cellFact(cell, what);
            }
            hash = 31 * hash + blockFact(cell, BLOCK_HELD);
            hash = 31 * hash + blockFact(cell, BLOCK_WAY);
        }
        for (int index = 0; index < ice.keptCount(); index++) {
            for (int what = 0; what < KEPT_FACTS; what++) {
                hash = 31 * hash + ice.keptFact(index, what);
            }
        }
        trial.copyFrom(ice);
        hash = 31 * hash + removeFloating(trial);
        return 31 * hash + savedCount;
    }

    // ---- checks

    private static boolean isOutside(int value, int least, int most) {
        return value < least || value > most;
    }

    private void checkCell(int cell) {
        if (isOutside(cell, 0, ice.cellCount() - 1)) {
            throw new IndexOutOfBoundsException("there is no such cell");
        }
    }

    private void checkRectangle(int cell, int width, int height) {
        checkCell(cell);
        if (isOutside(width, 1, MAX_SIDE) || isOutside(height, 1, MAX_SIDE)
                || ice.columnOf(cell) + width > ice.width || ice.rowOf(cell) + height > ice.height) {
            throw new IllegalArgumentException("the rectangle is not within the field");
        }
    }

    // ---- saved states

    // The saved states stand in a ring, so that the oldest one is overwritten when all places are used.
    private void saveState() {
        Ice place = savedAt(nextSaved);
        if (place != null) {
            place.copyFrom(ice);
        }
        nextSaved = (nextSaved + 1) % MAX_SAVED;
        if (savedCount < MAX_SAVED) {
            savedCount++;
        }
    }

    private Ice savedAt(int index) {
        return index >= 0 && index < saved.length ? saved[index] : null;
    }

    // ---- facts
    // The blocks and ways that they tell of have to be found ahead, so that digest finds them only once.

    private int fieldFact(int what) {
        switch (what) {
            case 0: return ice.width;
            case 1: return ice.height;
            case 2: return ice.iceCells();
            case ALL_BLOCKS: return blocks.countAll();
            case 4: return blocks.countLoose();
            case STRANDED_BLOCKS: return countStranded();
            case 6: return ice.cuts.sum();
            case 7: return ice.melt;
            case 8: return ice.days;
            case 9: return ice.laid;
            case 10: return ice.thickness.sum();
            case 11: return ice.takenVolume;
            case 12: return ice.melted;
            default: return ice.takenBlocks;
        }
    }

    private int cellFact(int cell, int what) {
        switch (what) {
            case 0: return ice.thickness.at(cell);
            case CELL_BLOCK: return blocks.numberAt(cell);
            case 6: return ice.waterBeside(cell);
            // 1 to 4 are the sides in the order in which saw() counts them from 0.
            default: return ice.cutAt(cell, what - 1);
        }
    }

    private int blockFact(int cell, int what) {
        int number = blocks.numberAt(cell);
        if (number == NONE) {
            return NONE;
        }
        switch (what) {
            case 0: return number;
            case 1: return blocks.sizeOf(number);
            case 2: return ice.volumeOf(blocks, number);
            case BLOCK_HELD: return blocks.isLoose(number) ? 0 : 1;
            default: return wayLengths.at(number);
        }
    }

    private int countStranded() {
        int count = 0;
        for (int number = 0; number < ice.cellCount(); number++) {
            if (isStranded(number)) {
                count++;
            }
        }
        return count;
    }

    // ---- ways

    private void findWayOf(int number) {
        wayLengths.put(number, blocks.isLoose(number) ? way.search(ice, blocks, number) : NONE);
    }

    private void findBlocksAndWays() {
        blocks.find(ice);
        for (int number = 0; number < ice.cellCount(); number++) {
            findWayOf(number);
        }
    }

    private boolean isStranded(int number) {
        return blocks.isLoose(number) && wayLengths.at(number) == NONE;
    }

    private int lowestStranded() {
        for (int number = 0; number < ice.cellCount(); number++) {
            if (isStranded(number)) {
                return number;
            }
        }
        return NONE;
    }

    private int lowestFloating(Ice field) {
        for (int number = 0; number < field.cellCount(); number++) {
            if (blocks.isLoose(number) && way.search(field, blocks, number) != NONE) {
                return number;
            }
        }
        return NONE;
    }

    // The blocks are found only once, because a block that is taken leaves all others as they are.
    private int removeFloating(Ice field) {
        blocks.find(field);
        for (int count = 0; count < MAX_CELLS; count++) {
            int number = lowestFloating(field);
            if (number == NONE) {
                return count;
            }
            field.removeBlock(blocks, number);
            blocks.forget(number);
        }
        return MAX_CELLS;
    }

    private boolean hasWaterIn(Ice field, int number) {
        for (int cell = 0; cell < field.cellCount(); cell++) {
            if (blocks.numberAt(cell) == number && !field.isIce(cell)) {
                return true;
            }
        }
        return false;
    }

    private boolean freesWay(int cell, int number) {
        int thickness = trial.thickness.at(cell);
        trial.thickness.put(cell, 0);
        boolean frees = way.search(trial, blocks, number) != NONE;
        trial.thickness.put(cell, thickness);
        return frees;
    }

    /** A row of numbers that looks at every index, so that no access to it can throw. */
    private static final class Numbers {
        private final int[] numbers;

        Numbers(int size) {
            numbers = new int[size < 0 ? 0 : size];
        }

        int at(int index) {
            return index >= 0 && index < numbers.length ? numbers[index] : 0;
        }

        void put(int index, int number) {
            if (index >= 0 && index < numbers.length) {
                numbers[index] = number;
            }
        }

        void fill(int number) {
            for (int i = 0; i < numbers.length; i++) {
                numbers[i] = number;
            }
        }

        void copyFrom(Numbers other) {
            for (int i = 0; i < numbers.length; i++) {
                numbers[i] = other.at(i);
            }
        }

        int sum() {
            int sum = 0;
            for (int i = 0; i < numbers.length; i++) {
                sum += numbers[i];
            }
            return sum;
        }
    }

    /** All that undo brings back: the field and its counts. Places behind the last cell hold 0. */
    private static final class Ice {
        private static final int UPRIGHT_CUTS = MAX_CELLS + MAX_SIDE;
        private static final int CUT_PLACES = UPRIGHT_CUTS + MAX_CELLS + 1;

        int width = MIN_SIDE;
        int height = MIN_SIDE;
        int melt = 0;
        int days = 0;
        int laid = 0;
        int melted = 0;
        int takenVolume = 0;
        int takenBlocks = 0;
        final Numbers thickness = new Numbers(MAX_CELLS);
        final Numbers cuts = new Numbers(CUT_PLACES);
        final Numbers kept = new Numbers(KEPT_FACTS * MAX_KEPT);
        private final Numbers losses = new Numbers(MAX_CELLS);

        void copyFrom(Ice other) {
            width = other.width;
            height = other.height;
            melt = other.melt;
            days = other.days;
            laid = other.laid;
            melted = other.melted;
            takenVolume = other.takenVolume;
            takenBlocks = other.takenBlocks;
            thickness.copyFrom(other.thickness);
            cuts.copyFrom(other.cuts);
            kept.copyFrom(other.kept);
        }

        // The melt is no count of the field, so it stays.
        void beginAnew(int newWidth, int newHeight) {
            width = newWidth;
            height = newHeight;
            days = 0;
            laid = 0;
            melted = 0;
            takenVolume = 0;
            takenBlocks = 0;
            thickness.fill(0);
            cuts.fill(0);
            kept.fill(0);
        }

        void add(int cell, int more) {
            thickness.put(cell, thickness.at(cell) + more);
            laid += more;
        }

        void addEverywhere(int more) {
            for (int cell = 0; cell < cellCount(); cell++) {
                add(cell, more);
            }
        }

        int cellCount() {
            return width * height;
        }

        int rowOf(int cell) {
            return width > 0 ? cell / width : 0;
        }

        int columnOf(int cell) {
            return width > 0 ? cell % width : 0;
        }

        boolean isIce(int cell) {
            return thickness.at(cell) > 0;
        }

        int iceCells() {
            int count = 0;
            for (int cell = 0; cell < cellCount(); cell++) {
                if (isIce(cell)) {
                    count++;
                }
            }
            return count;
        }

        /** The cell on a side of a cell; NONE if a wall, the shore or the open water is there. */
        int beside(int cell, int side) {
            switch (side) {
                case RIGHT: return columnOf(cell) < width - 1 ? cell + 1 : NONE;
                case BELOW: return cell + width < cellCount() ? cell + width : NONE;
                case ABOVE: return cell >= width ? cell - width : NONE;
                case LEFT: return columnOf(cell) > 0 ? cell - 1 : NONE;
                default: return NONE;
            }
        }

        boolean canCut(int cell, int side) {
            return side == ABOVE || beside(cell, side) != NONE;
        }

        // The cells on both sides of a cut have to share its place: it is that of the cell below the cut or
        // to the right of it. Walls and the open water have places of their own, which stay without a cut.
        private int cutPlace(int cell, int side) {
            switch (side) {
                case RIGHT: return UPRIGHT_CUTS + cell + 1;
                case BELOW: return cell + width;
                case LEFT: return UPRIGHT_CUTS + cell;
                default: return cell;
            }
        }

        int cutAt(int cell, int side) {
            return cuts.at(cutPlace(cell, side));
        }

        /** Cuts on a side where that is possible; the number of new cuts. */
        int cutSide(int cell, int side) {
            if (!canCut(cell, side) || cutAt(cell, side) == 1) {
                return 0;
            }
            cuts.put(cutPlace(cell, side), 1);
            return 1;
        }

        /** Cuts around a rectangle that lies within the field; the number of new cuts. */
        int cutRectangle(int cell, int columns, int rows) {
            int count = 0;
            for (int i = 0; i < columns; i++) {
                count += cutSide(cell + i, ABOVE);
                count += cutSide(cell + (rows - 1) * width + i, BELOW);
            }
            for (int i = 0; i < rows; i++) {
                count += cutSide(cell + i * width, LEFT);
                count += cutSide(cell + i * width + columns - 1, RIGHT);
            }
            return count;
        }

        boolean isTiedToShore(int cell) {
            return cell < width && cutAt(cell, ABOVE) == 0;
        }

        int waterBeside(int cell) {
            int count = 0;
            for (int side = 0; side < SIDES; side++) {
                int neighbour = beside(cell, side);
                if (neighbour == NONE ? side == BELOW : !isIce(neighbour)) {
                    count++;
                }
            }
            return count;
        }

        private int lossOf(int cell) {
            int loss = waterBeside(cell) >= 2 ? melt + 1 : melt;
            int most = thickness.at(cell);
            return loss < most ? loss : most;
        }

        // All losses are counted ahead of the first one that is taken off, because all cells melt at once.
        void meltOneDay() {
            for (int cell = 0; cell < cellCount(); cell++) {
                losses.put(cell, lossOf(cell));
            }
            for (int cell = 0; cell < cellCount(); cell++) {
                thickness.put(cell, thickness.at(cell) - losses.at(cell));
                melted += losses.at(cell);
            }
            days++;
        }

        int volumeOf(Blocks blocks, int number) {
            int volume = 0;
            for (int cell = 0; cell < cellCount(); cell++) {
                if (blocks.numberAt(cell) == number) {
                    volume += thickness.at(cell);
                }
            }
            return volume;
        }

        /** Takes a block out and keeps it as taken; its volume. */
        int removeBlock(Blocks blocks, int number) {
            int volume = volumeOf(blocks, number);
            for (int cell = 0; cell < cellCount(); cell++) {
                if (blocks.numberAt(cell) == number) {
                    thickness.put(cell, 0);
                }
            }
            if (takenBlocks < MAX_KEPT) {
                kept.put(KEPT_FACTS * takenBlocks, number);
                kept.put(KEPT_FACTS * takenBlocks + 1, volume);
                kept.put(KEPT_FACTS * takenBlocks + 2, days);
            }
            takenBlocks++;
            takenVolume += volume;
            return volume;
        }

        int keptCount() {
            return takenBlocks < MAX_KEPT ? takenBlocks : MAX_KEPT;
        }

        int keptFact(int index, int what) {
            return kept.at(KEPT_FACTS * index + what);
        }
    }

    /** The blocks of a field as they were when they were last found. */
    private static final class Blocks {
        private final Numbers numbers = new Numbers(MAX_CELLS);
        private final Numbers held = new Numbers(MAX_CELLS);
        private final Numbers queue = new Numbers(MAX_CELLS);

        void find(Ice ice) {
            numbers.fill(NONE);
            held.fill(0);
            for (int cell = 0; cell < ice.cellCount(); cell++) {
                if (ice.isIce(cell) && numbers.at(cell) == NONE) {
                    spread(ice, cell);
                }
            }
        }

        private void spread(Ice ice, int number) {
            numbers.put(number, number);
            queue.put(0, number);
            int end = 1;
            for (int next = 0; next < end && next < MAX_CELLS; next++) {
                int cell = queue.at(next);
                if (ice.isTiedToShore(cell)) {
                    held.put(number, 1);
                }
                for (int side = 0; side < SIDES; side++) {
                    int neighbour = ice.beside(cell, side);
                    if (neighbour != NONE && ice.isIce(neighbour) && numbers.at(neighbour) == NONE
                            && ice.cutAt(cell, side) == 0) {
                        numbers.put(neighbour, number);
                        queue.put(end, neighbour);
                        end++;
                    }
                }
            }
        }

        int numberAt(int cell) {
            return numbers.at(cell);
        }

        private boolean isBlock(int number) {
            return number >= 0 && number < MAX_CELLS && numbers.at(number) == number;
        }

        boolean isLoose(int number) {
            return isBlock(number) && held.at(number) == 0;
        }

        int sizeOf(int number) {
            int count = 0;
            for (int cell = 0; cell < MAX_CELLS; cell++) {
                if (numbers.at(cell) == number) {
                    count++;
                }
            }
            return count;
        }

        int countAll() {
            int count = 0;
            for (int number = 0; number < MAX_CELLS; number++) {
                if (isBlock(number)) {
                    count++;
                }
            }
            return count;
        }

        int countLoose() {
            int count = 0;
            for (int number = 0; number < MAX_CELLS; number++) {
                if (isLoose(number)) {
                    count++;
                }
            }
            return count;
        }

        void forget(int number) {
            for (int cell = 0; cell < MAX_CELLS; cell++) {
                if (numbers.at(cell) == number) {
                    numbers.put(cell, NONE);
                }
            }
        }
    }

    /**
     * The way of a loose block. A position of the block tells how far it has come from where it lay at
     * first: 7 rows up to 8 down, 7 columns left to 7 right. That is one more than the field leaves room
     * for, so that a move that is not allowed is a position of its own, too.
     */
    private static final class Way {
        private static final int REACH = 7;
        private static final int COLUMNS = 15;
        private static final int POSITIONS = 240;
        private static final int START = REACH * COLUMNS + REACH;
        private static final int MOVES = 4;
        private static final int NO_MOVE = 4;

        final Numbers moves = new Numbers(POSITIONS);
        private final Numbers cells = new Numbers(MAX_CELLS);
        private int size = 0;
        private final Numbers reachedBy = new Numbers(POSITIONS);
        private final Numbers queue = new Numbers(POSITIONS);

        // Positions leave the queue in the order of their first ways, left before right before up before
        // down, so the first position found outside ends the way that comes first.
        /** The length of the way, whose moves then stand in moves; NONE if there is no way. */
        int search(Ice ice, Blocks blocks, int number) {
            gatherCells(blocks, number);
            reachedBy.fill(NONE);
            reachedBy.put(START, NO_MOVE);
            queue.put(0, START);
            int end = 1;
            for (int next = 0; next < end && next < POSITIONS; next++) {
                for (int move = 0; move < MOVES; move++) {
                    int position = queue.at(next) + stepOf(move);
                    if (reachedBy.at(position) == NONE && canLie(ice, blocks, number, position)) {
                        reachedBy.put(position, move);
                        if (ice.rowOf(number) + downAt(position) >= ice.height) {
                            return traceBack(position);
                        }
                        queue.put(end, position);
                        end++;
                    }
                }
            }
            return NONE;
        }

        private void gatherCells(Blocks blocks, int number) {
            size = 0;
            for (int cell = 0; cell < MAX_CELLS; cell++) {
                if (blocks.numberAt(cell) == number) {
                    cells.put(size, cell);
                    size++;
                }
            }
        }

        private boolean canLie(Ice ice, Blocks blocks, int number, int position) {
            int down = downAt(position);
            int right = rightAt(position);
            for (int i = 0; i < size; i++) {
                int row = ice.rowOf(cells.at(i)) + down;
                int column = ice.columnOf(cells.at(i)) + right;
                if (row < 0 || column < 0 || column >= ice.width) {
                    return false;
                }
                int cell = row * ice.width + column;
                if (row < ice.height && ice.isIce(cell) && blocks.numberAt(cell) != number) {
                    return false;
                }
            }
            return true;
        }

        private int traceBack(int lastPosition) {
            int length = 0;
            int position = lastPosition;
            for (int i = 0; i < POSITIONS && position != START; i++) {
                length++;
                position -= stepOf(reachedBy.at(position));
            }
            position = lastPosition;
            for (int index = length - 1; index >= 0; index--) {
                moves.put(index, reachedBy.at(position));
                position -= stepOf(reachedBy.at(position));
            }
            return length;
        }

        private static int stepOf(int move) {
            switch (move) {
                case 0: return -1;
                case 1: return 1;
                case 2: return -COLUMNS;
                case 3: return COLUMNS;
                default: return 0;
            }
        }

        private static int downAt(int position) {
            return position / COLUMNS - REACH;
        }

        private static int rightAt(int position) {
            return position % COLUMNS - REACH;
        }
    }

    /** The text from which a field is read, and the size of that field as it was last read. */
    private static final class Text {
        final Numbers bytes = new Numbers(MAX_TEXT);
        int length = 0;
        int width = 0;
        int height = 0;

        void add(int value) {
            bytes.put(length, value);
            length++;
        }

        /** The syntax error position; NONE if the text is a field, whose size then stands in width and height. */
        int read() {
            width = 0;
            height = 1;
            int digits = 0;
            for (int i = 0; i < length && i < MAX_TEXT; i++) {
                if (isDigit(bytes.at(i)) && digits < mostDigits()) {
                    digits++;
                } else if (bytes.at(i) == '/' && digits >= leastDigits() && height < MAX_SIDE) {
                    width = digits;
                    height++;
                    digits = 0;
                } else {
                    return i;
                }
            }
            return height >= MIN_SIDE && digits == width ? NONE : length;
        }

        private int mostDigits() {
            return height == 1 ? MAX_SIDE : width;
        }

        private int leastDigits() {
            return height == 1 ? MIN_SIDE : width;
        }

        private static boolean isDigit(int value) {
            return value >= '0' && value <= '9';
        }

        int digitAt(int row, int column) {
            return bytes.at(row * (width + 1) + column) - '0';
        }
    }
}
